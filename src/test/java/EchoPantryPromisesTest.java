import java.lang.reflect.Method;
import java.lang.reflect.Modifier;
import java.util.NoSuchElementException;
import java.util.Set;
import java.util.TreeSet;

/** One method a promise of the document; prints what is wrong, and exits with 1 if something is. */
public final class EchoPantryPromisesTest {
    private static final Class<IndexOutOfBoundsException> INDEX = IndexOutOfBoundsException.class;
    private static final Class<NoSuchElementException> ELEMENT = NoSuchElementException.class;
    private static final Class<IllegalArgumentException> ARGUMENT = IllegalArgumentException.class;
    private static final Class<IllegalStateException> STATE = IllegalStateException.class;
    private static final Class<ArithmeticException> ARITHMETIC = ArithmeticException.class;

    private static int checks = 0;
    private static int wrong = 0;

    private interface Call {
        Object run();
    }

    private static void due(String what, Object want, Object got) {
        checks++;
        if (!want.equals(got)) {
            wrong++;
            System.out.println(what + " answered " + got + ", due is " + want);
        }
    }

    private static void refused(String what, Class<? extends RuntimeException> want, Call call) {
        Object got;
        try {
            got = call.run();
        } catch (RuntimeException e) {
            got = e.getClass();
        }
        due(what, want, got);
    }

    private static void type(EchoPantry x, String text) {
        for (int i = 0; i < text.length(); i++) {
            x.type(text.charAt(i));
        }
    }

    private static int execute(EchoPantry x, String text) {
        type(x, text);
        return x.execute();
    }

    private static String line(EchoPantry x, int shelf) {
        int length = x.writeShelf(shelf);
        StringBuilder line = new StringBuilder();
        for (int i = 0; i < length; i++) {
            line.append(x.lineAt(i));
        }
        return line.toString();
    }

    /** Jars a (10), b (20), c (30) and a shelf 0 of the given kind. */
    private static EchoPantry three(int capacity, int lifetime, char policy) {
        EchoPantry x = new EchoPantry();
        x.addJar('c', 30);
        x.addJar('a', 10);
        x.addJar('b', 20);
        x.addShelf(capacity, lifetime, policy);
        return x;
    }

    private static void face() {
        Set<String> names = new TreeSet<>();
        for (Method method : EchoPantry.class.getDeclaredMethods()) {
            if (!Modifier.isPrivate(method.getModifiers()) && !method.isSynthetic()) {
                names.add(method.getName());
                due("public " + method.getName(), true, Modifier.isPublic(method.getModifiers()));
            }
        }
        due("names of the face", "[addJar, addShelf, ageOf, cancelWarming, capacityOf, echoAt, echoCount, echoOf,"
                + " errorPosition, execute, failedCommand, hasEcho, hear, hitShare, hits, hitsOf, isConsistent,"
                + " isExpired, isListening, isOpen, isTrue, isTrueBySteps, jarAt, jarCount, lifetimeOf, lineAt,"
                + " meanAge, misses, outcomeOf, pass, policyOf, removeJar, restore, save, say, setListening,"
                + " shelfByHits, shelfCount, time, type, undo, victimByScan, victimOf, warm, warmingCount,"
                + " warmingJar, warmingMinute, wordOf, writeShelf]", names.toString());
        due("fields that are not private", 0L, java.util.Arrays.stream(EchoPantry.class.getDeclaredFields())
                .filter(f -> !Modifier.isPrivate(f.getModifiers())).count());
        due("final", true, Modifier.isFinal(EchoPantry.class.getModifiers()));
    }

    private static void p01newObject() {
        EchoPantry x = new EchoPantry();
        due("p1 jars", 0, x.jarCount());
        due("p1 shelves", 0, x.shelfCount());
        due("p1 time", 0, x.time());
        due("p1 warmings", 0, x.warmingCount());
        due("p1 hits", 0, x.hits());
        refused("p1 undo", STATE, x::undo);
        new EchoPantry().addJar('a', 1);
        due("p1 objects are apart", 0, x.jarCount());
    }

    private static void p02addJar() {
        EchoPantry x = new EchoPantry();
        refused("p2 letter before a", ARGUMENT, () -> x.addJar('`', 1));
        refused("p2 letter after z", ARGUMENT, () -> x.addJar('{', 1));
        refused("p2 capital", ARGUMENT, () -> x.addJar('A', 1));
        refused("p2 letter 65535", ARGUMENT, () -> x.addJar((char) 65535, 1));
        refused("p2 word -1", ARGUMENT, () -> x.addJar('a', -1));
        refused("p2 word 100", ARGUMENT, () -> x.addJar('a', 100));
        due("p2 z 0", 1, x.addJar('z', 0));
        due("p2 a 99", 2, x.addJar('a', 99));
        refused("p2 a again", STATE, () -> x.addJar('a', 5));
        refused("p2 a again, bad word", ARGUMENT, () -> x.addJar('a', 100));
        due("p2 word stays", 99, x.wordOf('a'));
        for (char letter = 'b'; letter <= 'k'; letter++) {
            x.addJar(letter, 1);
        }
        due("p2 12 jars", 12, x.jarCount());
        refused("p2 13th jar", STATE, () -> x.addJar('l', 5));
        refused("p2 13th jar, bad letter", ARGUMENT, () -> x.addJar('L', 5));
        x.removeJar('c');
        due("p2 room again", 12, x.addJar('l', 5));
    }

    private static void p03removeJar() {
        EchoPantry x = three(3, 5, 'r');
        x.addShelf(3, 5, 'o');
        x.addShelf(3, 5, 'l');
        x.setListening(1, false);
        refused("p3 no jar", ELEMENT, () -> x.removeJar('d'));
        refused("p3 no letter", ELEMENT, () -> x.removeJar('~'));
        x.hear(0, 'a');
        x.hear(1, 'a');
        x.hear(1, 'b');
        due("p3 echoes", 2, x.removeJar('a'));
        due("p3 jars", 2, x.jarCount());
        due("p3 shelf 0", 0, x.echoCount(0));
        due("p3 shelf 1", 1, x.echoCount(1));
        due("p3 order", 'b', x.victimOf(1));
        due("p3 no echoes", 0, x.removeJar('c'));
        refused("p3 twice", ELEMENT, () -> x.removeJar('a'));
        x.addJar('a', 11);
        due("p3 no echo of a later jar", false, x.hasEcho(0, 'a'));
        due("p3 cold", 'c', x.outcomeOf(0, 'a'));
    }

    private static void p04say() {
        EchoPantry x = three(3, 5, 'r');
        x.addShelf(3, 5, 'o');
        x.addShelf(3, 5, 'l');
        refused("p4 no jar", ELEMENT, () -> x.say('d', 1));
        refused("p4 no jar, bad word", ELEMENT, () -> x.say('d', 100));
        refused("p4 word 100", ARGUMENT, () -> x.say('a', 100));
        refused("p4 word -1", ARGUMENT, () -> x.say('a', -1));
        due("p4 no echoes", 0, x.say('a', 99));
        due("p4 word", 99, x.wordOf('a'));
        x.hear(0, 'a');
        x.hear(1, 'a');
        x.hear(2, 'a');
        x.hear(0, 'b');
        x.setListening(2, false);
        due("p4 lids", 2, x.say('a', 0));
        due("p4 open", true, x.isOpen(0, 'a'));
        due("p4 deaf", false, x.isOpen(2, 'a'));
        due("p4 another jar", false, x.isOpen(0, 'b'));
        due("p4 lids that are open already", 0, x.say('a', 1));
        x.setListening(2, true);
        due("p4 listening does not open", false, x.isOpen(2, 'a'));
        due("p4 listens again", 1, x.say('a', 1));
        due("p4 the same word opens", 1, x.say('b', 20));
        x.pass(5);
        x.hear(0, 'c');
        x.pass(5);
        due("p4 an expired echo is opened", 1, x.say('c', 3));
    }

    private static void p05to07jars() {
        EchoPantry x = new EchoPantry();
        due("p5 none", 0, x.jarCount());
        refused("p6 none", INDEX, () -> x.jarAt(0));
        x.addJar('m', 1);
        x.addJar('z', 2);
        x.addJar('a', 3);
        due("p5 three", 3, x.jarCount());
        due("p6 0", 'a', x.jarAt(0));
        due("p6 1", 'm', x.jarAt(1));
        due("p6 2", 'z', x.jarAt(2));
        refused("p6 3", INDEX, () -> x.jarAt(3));
        refused("p6 -1", INDEX, () -> x.jarAt(-1));
        refused("p6 least", INDEX, () -> x.jarAt(Integer.MIN_VALUE));
        refused("p6 greatest", INDEX, () -> x.jarAt(Integer.MAX_VALUE));
        due("p7 first word", 1, x.wordOf('m'));
        x.say('m', 77);
        due("p7 last word", 77, x.wordOf('m'));
        refused("p7 no jar", ELEMENT, () -> x.wordOf('b'));
        refused("p7 no letter", ELEMENT, () -> x.wordOf((char) 0));
        x.removeJar('m');
        refused("p7 removed", ELEMENT, () -> x.wordOf('m'));
        due("p6 after a removal", 'z', x.jarAt(1));
    }

    private static void p08addShelf() {
        EchoPantry x = new EchoPantry();
        refused("p8 capacity 0", ARGUMENT, () -> x.addShelf(0, 1, 'r'));
        refused("p8 capacity 7", ARGUMENT, () -> x.addShelf(7, 1, 'r'));
        refused("p8 lifetime 0", ARGUMENT, () -> x.addShelf(1, 0, 'r'));
        refused("p8 lifetime 31", ARGUMENT, () -> x.addShelf(1, 31, 'r'));
        refused("p8 policy x", ARGUMENT, () -> x.addShelf(1, 1, 'x'));
        refused("p8 policy R", ARGUMENT, () -> x.addShelf(1, 1, 'R'));
        due("p8 0", 0, x.addShelf(1, 1, 'r'));
        due("p8 1", 1, x.addShelf(6, 30, 'o'));
        due("p8 2", 2, x.addShelf(2, 3, 'l'));
        due("p8 3", 3, x.addShelf(2, 3, 'l'));
        refused("p8 fifth", STATE, () -> x.addShelf(2, 3, 'l'));
        refused("p8 fifth, bad", ARGUMENT, () -> x.addShelf(2, 3, ' '));
        due("p8 four", 4, x.shelfCount());
        due("p8 listens", true, x.isListening(3));
    }

    private static void p09to14shelves() {
        EchoPantry x = new EchoPantry();
        due("p10 none", 0, x.shelfCount());
        x.addShelf(1, 30, 'r');
        x.addShelf(6, 1, 'l');
        due("p10 two", 2, x.shelfCount());
        due("p11", 1, x.capacityOf(0));
        due("p11 of 1", 6, x.capacityOf(1));
        due("p12", 30, x.lifetimeOf(0));
        due("p12 of 1", 1, x.lifetimeOf(1));
        due("p13", 'r', x.policyOf(0));
        due("p13 of 1", 'l', x.policyOf(1));
        due("p14", true, x.isListening(1));
        due("p9 listened", true, x.setListening(1, false));
        due("p9 did not listen", false, x.setListening(1, false));
        due("p14 deaf", false, x.isListening(1));
        due("p14 the other", true, x.isListening(0));
        due("p9 did not listen before", false, x.setListening(1, true));
        due("p14 listens", true, x.isListening(1));
        for (int shelf : new int[] {-1, 2, 4, Integer.MIN_VALUE, Integer.MAX_VALUE}) {
            refused("p9 shelf " + shelf, INDEX, () -> x.setListening(shelf, true));
            refused("p11 shelf " + shelf, INDEX, () -> x.capacityOf(shelf));
            refused("p12 shelf " + shelf, INDEX, () -> x.lifetimeOf(shelf));
            refused("p13 shelf " + shelf, INDEX, () -> x.policyOf(shelf));
            refused("p14 shelf " + shelf, INDEX, () -> x.isListening(shelf));
        }
    }

    private static void p15to18echoes() {
        EchoPantry x = three(3, 5, 'r');
        due("p15 none", 0, x.echoCount(0));
        refused("p16 none", ELEMENT, () -> x.echoAt(0, 0));
        due("p17 none", false, x.hasEcho(0, 'a'));
        x.hear(0, 'c');
        x.hear(0, 'a');
        due("p15 two", 2, x.echoCount(0));
        due("p16 first", 'a', x.echoAt(0, 0));
        due("p16 second", 'c', x.echoAt(0, 1));
        refused("p16 position 2", ELEMENT, () -> x.echoAt(0, 2));
        refused("p16 position -1", ELEMENT, () -> x.echoAt(0, -1));
        due("p17 a", true, x.hasEcho(0, 'a'));
        due("p17 b", false, x.hasEcho(0, 'b'));
        due("p17 any character", false, x.hasEcho(0, (char) 0));
        due("p17 a blank", false, x.hasEcho(0, ' '));
        due("p17 the last character", false, x.hasEcho(0, (char) 65535));
        x.say('a', 55);
        due("p18 the word when it was fetched", 10, x.echoOf(0, 'a'));
        x.hear(0, 'a');
        due("p18 the word of the new echo", 55, x.echoOf(0, 'a'));
        refused("p18 no echo", ELEMENT, () -> x.echoOf(0, 'b'));
        refused("p18 no letter", ELEMENT, () -> x.echoOf(0, ' '));
        for (int shelf : new int[] {-1, 1, Integer.MIN_VALUE, Integer.MAX_VALUE}) {
            refused("p15 shelf " + shelf, INDEX, () -> x.echoCount(shelf));
            refused("p16 shelf " + shelf, INDEX, () -> x.echoAt(shelf, 9));
            refused("p17 shelf " + shelf, INDEX, () -> x.hasEcho(shelf, 'a'));
            refused("p18 shelf " + shelf, INDEX, () -> x.echoOf(shelf, 'x'));
        }
    }

    private static void p19to22echoes() {
        EchoPantry x = three(3, 5, 'r');
        x.hear(0, 'a');
        due("p19 new", 0, x.ageOf(0, 'a'));
        due("p20 new", 0, x.hitsOf(0, 'a'));
        due("p21 new", false, x.isExpired(0, 'a'));
        due("p22 new", false, x.isOpen(0, 'a'));
        x.pass(4);
        due("p21 age 4", false, x.isExpired(0, 'a'));
        x.hear(0, 'a');
        due("p19 a hit keeps the age", 4, x.ageOf(0, 'a'));
        due("p20 a hit", 1, x.hitsOf(0, 'a'));
        x.pass(1);
        due("p19 age 5", 5, x.ageOf(0, 'a'));
        due("p21 age 5", true, x.isExpired(0, 'a'));
        x.say('a', 10);
        due("p22 said", true, x.isOpen(0, 'a'));
        x.pass(60);
        due("p19 age 65", 65, x.ageOf(0, 'a'));
        x.hear(0, 'a');
        due("p19 fetched", 0, x.ageOf(0, 'a'));
        due("p20 fetched", 0, x.hitsOf(0, 'a'));
        due("p21 fetched", false, x.isExpired(0, 'a'));
        due("p22 fetched", false, x.isOpen(0, 'a'));
        refused("p19 no echo", ELEMENT, () -> x.ageOf(0, 'b'));
        refused("p20 no echo", ELEMENT, () -> x.hitsOf(0, 'b'));
        refused("p21 no echo", ELEMENT, () -> x.isExpired(0, 'b'));
        refused("p22 no echo", ELEMENT, () -> x.isOpen(0, 'b'));
        for (int shelf : new int[] {-1, 1, Integer.MIN_VALUE, Integer.MAX_VALUE}) {
            refused("p19 shelf " + shelf, INDEX, () -> x.ageOf(shelf, 'x'));
            refused("p20 shelf " + shelf, INDEX, () -> x.hitsOf(shelf, 'x'));
            refused("p21 shelf " + shelf, INDEX, () -> x.isExpired(shelf, 'x'));
            refused("p22 shelf " + shelf, INDEX, () -> x.isOpen(shelf, 'x'));
        }
    }

    private static void p23to24truth() {
        EchoPantry x = three(3, 5, 'r');
        x.addShelf(3, 5, 'o');
        x.setListening(1, false);
        x.hear(0, 'a');
        x.hear(1, 'a');
        due("p23 new", true, x.isTrue(0, 'a'));
        due("p24 new", true, x.isTrueBySteps(0, 'a'));
        x.say('b', 1);
        x.pass(9);
        due("p23 expired, true", true, x.isTrue(1, 'a'));
        due("p24 expired, true", true, x.isTrueBySteps(1, 'a'));
        x.say('a', 10);
        due("p23 the same word", false, x.isTrue(0, 'a'));
        due("p24 the same word", false, x.isTrueBySteps(0, 'a'));
        due("p23 deaf", false, x.isTrue(1, 'a'));
        due("p24 deaf", false, x.isTrueBySteps(1, 'a'));
        x.hear(0, 'a');
        due("p23 fetched", true, x.isTrue(0, 'a'));
        due("p24 fetched", true, x.isTrueBySteps(0, 'a'));
        refused("p23 no echo", ELEMENT, () -> x.isTrue(0, 'b'));
        refused("p24 no echo", ELEMENT, () -> x.isTrueBySteps(0, 'b'));
        for (int shelf : new int[] {-1, 2, Integer.MIN_VALUE, Integer.MAX_VALUE}) {
            refused("p23 shelf " + shelf, INDEX, () -> x.isTrue(shelf, 'x'));
            refused("p24 shelf " + shelf, INDEX, () -> x.isTrueBySteps(shelf, 'x'));
        }
        x.removeJar('a');
        x.addJar('a', 1);
        x.hear(0, 'a');
        due("p23 a jar added again", true, x.isTrue(0, 'a'));
        due("p24 a jar added again", true, x.isTrueBySteps(0, 'a'));
    }

    private static void victim(String what, EchoPantry x, int shelf, char want) {
        due("p25 " + what, want, x.victimOf(shelf));
        due("p26 " + what, want, x.victimByScan(shelf));
    }

    private static void p25to26victims() {
        EchoPantry x = three(3, 5, 'r');
        x.addShelf(3, 5, 'o');
        x.addShelf(3, 5, 'l');
        refused("p25 none", ELEMENT, () -> x.victimOf(0));
        refused("p26 none", ELEMENT, () -> x.victimByScan(0));
        refused("p25 shelf 3", INDEX, () -> x.victimOf(3));
        refused("p26 shelf 3", INDEX, () -> x.victimByScan(3));
        refused("p25 shelf -1", INDEX, () -> x.victimOf(-1));
        refused("p26 shelf -1", INDEX, () -> x.victimByScan(-1));
        for (int shelf = 0; shelf < 3; shelf++) {
            x.hear(shelf, 'b');
            victim("one echo", x, shelf, 'b');
            x.hear(shelf, 'a');
            victim("two echoes", x, shelf, 'b');
            x.hear(shelf, 'b');
        }
        victim("r after a hit", x, 0, 'a');
        victim("o after a hit", x, 1, 'b');
        victim("l after a hit", x, 2, 'a');
        x.hear(2, 'a');
        victim("l with as many hits", x, 2, 'b');
        x.hear(2, 'c');
        victim("l new echo", x, 2, 'c');
        x.pass(5);
        x.hear(1, 'b');
        victim("o fetched again", x, 1, 'a');
        x.hear(2, 'a');
        victim("l fetched again", x, 2, 'c');
        x.removeJar('c');
        victim("l the hits of an echo that is fetched are none", x, 2, 'a');
        x.removeJar('a');
        victim("r after a removal", x, 0, 'b');
    }

    private static void p27hear() {
        EchoPantry x = three(2, 5, 'r');
        refused("p27 shelf", INDEX, () -> x.hear(1, 'a'));
        refused("p27 shelf before jar", INDEX, () -> x.hear(-1, 'x'));
        refused("p27 jar", ELEMENT, () -> x.hear(0, 'x'));
        due("p27 cold", 10, x.hear(0, 'a'));
        due("p27 hit", 10, x.hear(0, 'a'));
        x.setListening(0, false);
        x.say('a', 11);
        due("p27 a hit hears the old word", 10, x.hear(0, 'a'));
        due("p27 hits", 2, x.hitsOf(0, 'a'));
        x.setListening(0, true);
        x.say('a', 12);
        due("p27 open", 12, x.hear(0, 'a'));
        due("p27 hits of the new echo", 0, x.hitsOf(0, 'a'));
        x.hear(0, 'b');
        x.say('a', 13);
        due("p27 its own older echo goes first", 13, x.hear(0, 'a'));
        due("p27 b stays", true, x.hasEcho(0, 'b'));
        due("p27 full", 30, x.hear(0, 'c'));
        due("p27 victim b", false, x.hasEcho(0, 'b'));
        due("p27 a stays", true, x.hasEcho(0, 'a'));
        due("p27 two", 2, x.echoCount(0));
        x.pass(5);
        due("p27 expired", 13, x.hear(0, 'a'));
        due("p27 sorts", "2 3 1 2",
                x.hits() + " " + x.misses('c') + " " + x.misses('e') + " " + x.misses('o'));
    }

    private static void p28outcomeOf() {
        EchoPantry x = three(2, 5, 'r');
        refused("p28 shelf", INDEX, () -> x.outcomeOf(1, 'x'));
        refused("p28 shelf -1", INDEX, () -> x.outcomeOf(-1, 'a'));
        refused("p28 jar", ELEMENT, () -> x.outcomeOf(0, 'x'));
        due("p28 cold", 'c', x.outcomeOf(0, 'a'));
        x.hear(0, 'a');
        due("p28 hit", 'h', x.outcomeOf(0, 'a'));
        x.pass(4);
        due("p28 age 4", 'h', x.outcomeOf(0, 'a'));
        x.say('a', 1);
        due("p28 open", 'o', x.outcomeOf(0, 'a'));
        x.pass(1);
        due("p28 expired and open", 'e', x.outcomeOf(0, 'a'));
        due("p28 nothing is heard", 1, x.misses('c') + x.misses('e') + x.misses('o') + x.hits());
    }

    private static void p29warm() {
        EchoPantry x = three(2, 5, 'r');
        refused("p29 shelf", INDEX, () -> x.warm(1, 'x', 0));
        refused("p29 shelf -1", INDEX, () -> x.warm(-1, 'a', 1));
        refused("p29 jar", ELEMENT, () -> x.warm(0, 'x', 0));
        refused("p29 minutes 0", ARGUMENT, () -> x.warm(0, 'a', 0));
        refused("p29 minutes 51", ARGUMENT, () -> x.warm(0, 'a', 51));
        refused("p29 minutes -1", ARGUMENT, () -> x.warm(0, 'a', -1));
        due("p29 50", 0, x.warm(0, 'a', 50));
        due("p29 1", 0, x.warm(0, 'b', 1));
        due("p29 same minute goes behind", 1, x.warm(0, 'c', 1));
        due("p29 last", 3, x.warm(0, 'b', 50));
        due("p29 between", 2, x.warm(0, 'b', 7));
        due("p29 6", 5, x.warm(0, 'b', 50));
        due("p29 7", 6, x.warm(0, 'b', 50));
        due("p29 8", 3, x.warm(0, 'b', 49));
        refused("p29 ninth", STATE, () -> x.warm(0, 'a', 1));
        refused("p29 ninth, bad minutes", ARGUMENT, () -> x.warm(0, 'a', 0));
        x.pass(1);
        due("p29 room again", 0, x.warm(0, 'a', 1));
    }

    private static void p30cancelWarming() {
        EchoPantry x = three(2, 5, 'r');
        refused("p30 none", INDEX, () -> x.cancelWarming(0));
        x.warm(0, 'a', 3);
        x.warm(0, 'b', 3);
        x.warm(0, 'c', 1);
        refused("p30 3", INDEX, () -> x.cancelWarming(3));
        refused("p30 -1", INDEX, () -> x.cancelWarming(-1));
        due("p30 the middle", 2, x.cancelWarming(1));
        due("p30 first stays", 'c', x.warmingJar(0));
        due("p30 last moves up", 'b', x.warmingJar(1));
        due("p30 pass", 2, x.pass(3));
        due("p30 a was not fetched", false, x.hasEcho(0, 'a'));
        refused("p30 carried out", INDEX, () -> x.cancelWarming(0));
    }

    private static void p31pass() {
        EchoPantry x = three(1, 5, 'r');
        refused("p31 0", ARGUMENT, () -> x.pass(0));
        refused("p31 61", ARGUMENT, () -> x.pass(61));
        refused("p31 -1", ARGUMENT, () -> x.pass(-1));
        due("p31 time stays", 0, x.time());
        due("p31 60", 0, x.pass(60));
        due("p31 time", 60, x.time());
        x.warm(0, 'a', 2);
        x.warm(0, 'b', 2);
        x.warm(0, 'c', 1);
        x.say('b', 21);
        due("p31 c", 1, x.pass(1));
        due("p31 c is there", true, x.hasEcho(0, 'c'));
        due("p31 a, then b", 2, x.pass(1));
        due("p31 b is there", "b21", line(x, 0));
        x.warm(0, 'a', 5);
        x.warm(0, 'b', 5);
        x.removeJar('a');
        due("p31 no such jar", 1, x.pass(7));
        due("p31 age", 2, x.ageOf(0, 'b'));
        due("p31 removed", 0, x.warmingCount());
        x.hear(0, 'b');
        x.warm(0, 'b', 1);
        due("p31 a fresh echo is fetched too", 1, x.pass(1));
        due("p31 its age", 0, x.ageOf(0, 'b'));
        due("p31 its hits", 0, x.hitsOf(0, 'b'));
        due("p31 a warming is no hit", 1, x.hits());
        due("p31 a warming is no miss", 0, x.misses('c') + x.misses('e') + x.misses('o'));
    }

    private static void p32to35warmings() {
        EchoPantry x = three(1, 5, 'r');
        due("p32 0", 0, x.time());
        due("p33 0", 0, x.warmingCount());
        refused("p34 none", INDEX, () -> x.warmingMinute(0));
        refused("p35 none", INDEX, () -> x.warmingJar(0));
        x.pass(10);
        x.warm(0, 'a', 3);
        x.warm(0, 'b', 50);
        x.warm(0, 'c', 1);
        due("p32 10", 10, x.time());
        due("p33 3", 3, x.warmingCount());
        due("p34 first", 11, x.warmingMinute(0));
        due("p34 second", 13, x.warmingMinute(1));
        due("p34 third", 60, x.warmingMinute(2));
        due("p35 first", 'c', x.warmingJar(0));
        due("p35 second", 'a', x.warmingJar(1));
        due("p35 third", 'b', x.warmingJar(2));
        for (int position : new int[] {-1, 3, 8, Integer.MIN_VALUE, Integer.MAX_VALUE}) {
            refused("p34 position " + position, INDEX, () -> x.warmingMinute(position));
            refused("p35 position " + position, INDEX, () -> x.warmingJar(position));
        }
        x.removeJar('c');
        due("p35 a removed jar", 'c', x.warmingJar(0));
        x.pass(2);
        due("p33 the first is gone", 2, x.warmingCount());
        due("p35 the next is first", 'a', x.warmingJar(0));
    }

    private static void p36to40statistics() {
        EchoPantry x = three(2, 5, 'r');
        x.addShelf(2, 5, 'r');
        x.addShelf(2, 5, 'r');
        refused("p38 nothing heard", ARITHMETIC, x::hitShare);
        refused("p39 no echoes", ARITHMETIC, x::meanAge);
        refused("p37 h", ARGUMENT, () -> x.misses('h'));
        refused("p37 C", ARGUMENT, () -> x.misses('C'));
        due("p36 none", 0, x.hits());
        due("p40 equal 0", 0, x.shelfByHits(0));
        due("p40 equal 2", 2, x.shelfByHits(2));
        refused("p40 rank 3", ELEMENT, () -> x.shelfByHits(3));
        refused("p40 rank -1", ELEMENT, () -> x.shelfByHits(-1));
        refused("p40 rank 4", ELEMENT, () -> x.shelfByHits(4));
        x.hear(0, 'a');
        due("p38 no hits", 0f, x.hitShare());
        due("p39 age 0", 0.0, x.meanAge());
        x.pass(1);
        x.hear(2, 'a');
        due("p36 hits none", 0, x.hits());
        x.hear(2, 'a');
        x.hear(2, 'a');
        x.hear(1, 'a');
        x.hear(1, 'a');
        x.say('a', 1);
        x.hear(1, 'a');
        x.pass(4);
        x.hear(0, 'a');
        due("p36 hits", 3, x.hits());
        due("p37 cold", 3, x.misses('c'));
        due("p37 open", 1, x.misses('o'));
        due("p37 expired", 1, x.misses('e'));
        due("p38 share", 3f / 8f, x.hitShare());
        due("p39 mean", 8.0 / 3.0, x.meanAge());
        due("p40 first", 2, x.shelfByHits(0));
        due("p40 second", 1, x.shelfByHits(1));
        due("p40 third", 0, x.shelfByHits(2));
        x.removeJar('a');
        due("p36 hits stay", 3, x.hits());
        due("p40 hits at a shelf stay", 2, x.shelfByHits(0));
        due("p38 share stays", 3f / 8f, x.hitShare());
        refused("p39 no echoes any more", ARITHMETIC, x::meanAge);
        refused("p40 no shelves", ELEMENT, () -> new EchoPantry().shelfByHits(0));
        x.hear(0, 'b');
        due("p38 a share that float rounds", 3f / 9f, x.hitShare());
    }

    private static void p41to42line() {
        EchoPantry x = new EchoPantry();
        refused("p42 empty at first", INDEX, () -> x.lineAt(0));
        refused("p41 shelf", INDEX, () -> x.writeShelf(0));
        x.addShelf(6, 5, 'r');
        due("p41 no echoes", 0, x.writeShelf(0));
        refused("p42 empty line", INDEX, () -> x.lineAt(0));
        x.addJar('x', 0);
        x.addJar('c', 7);
        x.addJar('a', 41);
        x.hear(0, 'x');
        x.hear(0, 'c');
        x.pass(5);
        x.hear(0, 'a');
        x.say('x', 9);
        due("p41 length", 12, x.writeShelf(0));
        due("p41 as in the document's example", "a41 c7~ x0~!", line(x, 0));
    }

    private static void p41to42more() {
        EchoPantry x = new EchoPantry();
        x.addShelf(6, 5, 'r');
        for (char letter = 'a'; letter <= 'f'; letter++) {
            x.addJar(letter, 90 + letter - 'a');
            x.hear(0, letter);
        }
        x.pass(5);
        for (char letter = 'a'; letter <= 'f'; letter++) {
            x.say(letter, 1);
        }
        due("p41 the longest line", "a90~! b91~! c92~! d93~! e94~! f95~!", line(x, 0));
        refused("p41 shelf 1", INDEX, () -> x.writeShelf(1));
        due("p42 the line stays", 'f', x.lineAt(30));
        refused("p42 35", INDEX, () -> x.lineAt(35));
        refused("p42 -1", INDEX, () -> x.lineAt(-1));
        x.hear(0, 'b');
        due("p42 the line stays as written", '9', x.lineAt(7));
        due("p41 open alone", "a90~! b1 c92~! d93~! e94~! f95~!", line(x, 0));
        x.say('b', 2);
        due("p41 open, not expired", "a90~! b1! c92~! d93~! e94~! f95~!", line(x, 0));
        x.addShelf(1, 1, 'o');
        due("p41 a shorter line replaces it", 0, x.writeShelf(1));
        refused("p42 replaced", INDEX, () -> x.lineAt(0));
    }

    /** The first and the last letter, in each of the calls that go through the letters. */
    private static void firstAndLastLetter() {
        EchoPantry x = new EchoPantry();
        x.addShelf(2, 5, 'r');
        x.addJar('z', 1);
        x.addJar('a', 2);
        x.hear(0, 'z');
        x.hear(0, 'a');
        due("p6 a", 'a', x.jarAt(0));
        due("p6 z", 'z', x.jarAt(1));
        due("p16 a", 'a', x.echoAt(0, 0));
        due("p16 z", 'z', x.echoAt(0, 1));
        due("p41 a and z", "a2 z1", line(x, 0));
        due("p45 a and z", 4, execute(x, "say a 3;say z 4;hear 0 z;warm 0 a 9"));
        due("p35 a", 'a', x.warmingJar(0));
        x.save();
        x.removeJar('z');
        x.removeJar('a');
        x.restore();
        due("p50 z", "a2! z4", line(x, 0));
    }

    private static void p43isConsistent() {
        EchoPantry x = three(2, 5, 'l');
        due("p43 new", true, new EchoPantry().isConsistent());
        due("p43 no echoes", true, x.isConsistent());
        x.hear(0, 'a');
        x.setListening(0, false);
        x.say('a', 1);
        due("p43 an echo that is not true", true, x.isConsistent());
        x.hear(0, 'b');
        x.hear(0, 'b');
        x.hear(0, 'c');
        due("p43 full", true, x.isConsistent());
    }

    private static void p44type() {
        EchoPantry x = new EchoPantry();
        refused("p44 31", ARGUMENT, () -> x.type((char) 31));
        refused("p44 127", ARGUMENT, () -> x.type((char) 127));
        refused("p44 65535", ARGUMENT, () -> x.type((char) 65535));
        due("p44 32", 1, x.type((char) 32));
        due("p44 126", 2, x.type((char) 126));
        for (int i = 3; i <= 60; i++) {
            due("p44 " + i, i, x.type('x'));
        }
        refused("p44 full", STATE, () -> x.type('x'));
        refused("p44 full, bad", ARGUMENT, () -> x.type((char) 31));
        refused("p44 text", ARGUMENT, x::execute);
        due("p44 empty again", 1, x.type('x'));
    }

    private static void p45execute() {
        EchoPantry x = new EchoPantry();
        due("p45 jar", 1, execute(x, "jar a 7"));
        due("p45 jar word", 7, x.wordOf('a'));
        due("p45 many", 5, execute(x, "say a 09;shelf 2 30 l;hear 0 a;warm 0 a 2;pass 3"));
        due("p45 said", 9, x.wordOf('a'));
        due("p45 capacity", 2, x.capacityOf(0));
        due("p45 lifetime", 30, x.lifetimeOf(0));
        due("p45 policy", 'l', x.policyOf(0));
        due("p45 heard", 1, x.misses('c'));
        due("p45 warmed", 1, x.ageOf(0, 'a'));
        due("p45 time", 3, x.time());
        due("p45 deaf", 1, execute(x, "deaf 0"));
        due("p45 is deaf", false, x.isListening(0));
        due("p45 listen", 1, execute(x, "listen 0"));
        due("p45 listens", true, x.isListening(0));
        due("p45 drop", 1, execute(x, "drop a"));
        due("p45 dropped", 0, x.jarCount());
        due("p45 policies", 2, execute(x, "shelf 1 01 r;shelf 6 1 o"));
        due("p45 r", 'r', x.policyOf(1));
        due("p45 o", 'o', x.policyOf(2));
        due("p45 eight commands", 8, execute(x, "pass 1;pass 1;pass 1;pass 1;pass 1;pass 1;pass 1;pass 1"));
        due("p45 time of them", 11, x.time());
        due("p45 60 characters", 7,
                execute(x, "jar q 10;say q 11;say q 12;say q 13;say q 14;pass 60;pass 59"));
        refused("p45 malformed", ARGUMENT, () -> execute(x, "jar b 1;jar"));
        due("p45 malformed does nothing", 1, x.jarCount());
        refused("p45 fails", STATE, () -> execute(x, "jar b 1;hear 0 b;pass 61"));
        due("p45 taken back", 1, x.jarCount());
        due("p45 taken back misses", 1, x.misses('c'));
        due("p45 empty buffer", 1, x.type('p'));
    }

    private static void fails(String text, int index) {
        EchoPantry x = new EchoPantry();
        x.addJar('a', 1);
        x.addShelf(1, 1, 'r');
        refused("p47 " + text, STATE, () -> execute(x, text));
        due("p47 index of " + text, index, x.failedCommand());
        due("p45 taken back " + text, "1 1 1 true 0 0", x.jarCount() + " " + x.wordOf('a') + " " + x.shelfCount()
                + " " + x.isListening(0) + " " + x.echoCount(0) + " " + x.time());
        due("p48 undo after " + text, 1, x.undo());
    }

    private static void p45failures() {
        fails("jar a 1", 0);
        fails("deaf 0;jar b 1;jar a 2", 2);
        fails("drop b", 0);
        fails("drop a;say a 1", 1);
        fails("shelf 0 1 r", 0);
        fails("shelf 7 1 r", 0);
        fails("shelf 1 0 o", 0);
        fails("shelf 1 31 l", 0);
        fails("hear 0 a;hear 1 a", 1);
        fails("say a 2;hear 0 b", 1);
        fails("warm 0 a 0", 0);
        fails("warm 0 a 51", 0);
        fails("warm 1 a 1", 0);
        fails("warm 0 b 1", 0);
        fails("pass 0", 0);
        fails("pass 60;pass 61;pass 0", 1);
        fails("listen 1", 0);
        fails("deaf 9", 0);
        fails("shelf 1 1 r;shelf 1 1 r;shelf 1 1 r;shelf 1 1 r", 3);
    }

    private static void malformed(String text, int position) {
        EchoPantry x = new EchoPantry();
        x.addJar('a', 1);
        x.addShelf(1, 1, 'r');
        refused("p45 " + text, ARGUMENT, () -> execute(x, text));
        due("p46 position in " + text, position, x.errorPosition());
        due("p45 buffer after " + text, 1, x.type('x'));
        refused("p47 after " + text, ELEMENT, x::failedCommand);
    }

    private static void p46errorPosition() {
        EchoPantry fresh = new EchoPantry();
        refused("p46 none", ELEMENT, fresh::errorPosition);
        execute(fresh, "pass 1");
        refused("p46 a valid text", ELEMENT, fresh::errorPosition);
        malformed("", 0);
        malformed(" ", 0);
        malformed(";", 0);
        malformed("x", 0);
        malformed("j", 1);
        malformed("jar", 3);
        malformed("jar ", 4);
        malformed("jar a", 5);
        malformed("jar a ", 6);
        malformed("jar a 1;", 8);
        malformed("jar a 123", 8);
        malformed("jar a 12 ", 8);
        malformed("jar a 1 ", 7);
        malformed("jar A 1", 4);
        malformed("jar  a 1", 4);
        malformed("jar a1", 5);
        malformed("jar a x", 6);
        malformed("jar a -1", 6);
        malformed("s", 1);
        malformed("sx", 1);
        malformed("sa", 2);
        malformed("sax", 2);
        malformed("sh", 2);
        malformed("shx", 2);
        malformed("say{", 3);
        malformed("d", 1);
        malformed("da", 1);
        malformed("de", 2);
        malformed("drop a;drop ", 12);
        malformed("drop a b", 6);
        malformed("drop0", 4);
        malformed("shelf", 5);
        malformed("shelf 12 3 r", 7);
        malformed("shelf 1 2", 9);
        malformed("shelf 1 23", 10);
        malformed("shelf 1 234", 10);
        malformed("shelf 1 23 ", 11);
        malformed("shelf 1 2 x", 10);
        malformed("shelf 1 2 rr", 11);
        malformed("shelf 1 2;", 9);
        malformed("hear a", 5);
        malformed("hear 0a", 6);
        malformed("hear 0 ", 7);
        malformed("hear 0 a 1", 8);
        malformed("warm 0 a", 8);
        malformed("warm 0 a;", 8);
        malformed("listen", 6);
        malformed("listen 00", 8);
        malformed("lx", 1);
        malformed("deaf x", 5);
        malformed("pass", 4);
        malformed("pass 1;;pass 1", 7);
        malformed("pass 1;pass 2;q", 14);
        malformed("pass 1; pass 2", 7);
        malformed("pass 1;pass 1;pass 1;pass 1;pass 1;pass 1;pass 1;pass 1;pass", 60);
        malformed("pass 1;pass 1;pass 1;pass 1;pass 1;pass 1;pass 1;pass 1;pa;s", 58);
    }

    private static void p46to47stay() {
        EchoPantry x = new EchoPantry();
        refused("p47 none", ELEMENT, x::failedCommand);
        refused("p46 first", ARGUMENT, () -> execute(x, "pass 1;x"));
        refused("p46 second", ARGUMENT, () -> execute(x, "pa"));
        due("p46 the last", 2, x.errorPosition());
        refused("p47 first", STATE, () -> execute(x, "pass 1;pass 0"));
        due("p46 stays", 2, x.errorPosition());
        due("p47 1", 1, x.failedCommand());
        refused("p46 third", ARGUMENT, () -> execute(x, "pass 1;x"));
        due("p47 stays", 1, x.failedCommand());
        due("p46 7", 7, x.errorPosition());
        execute(x, "pass 1");
        due("p46 stays after a valid text", 7, x.errorPosition());
        due("p47 stays after a valid text", 1, x.failedCommand());
        x.undo();
        x.save();
        x.restore();
        due("p46 is not restored", 7, x.errorPosition());
        due("p47 is not restored", 1, x.failedCommand());
        refused("p47 second", STATE, () -> execute(x, "pass 0"));
        due("p47 0", 0, x.failedCommand());
    }

    private static void p48undo() {
        EchoPantry x = new EchoPantry();
        refused("p48 none", STATE, x::undo);
        x.addJar('a', 1);
        x.addShelf(1, 9, 'r');
        x.setListening(0, false);
        x.setListening(0, true);
        x.hear(0, 'a');
        x.warm(0, 'a', 5);
        x.cancelWarming(0);
        x.warm(0, 'a', 2);
        x.say('a', 2);
        x.pass(2);
        execute(x, "pass 1;pass 2");
        x.removeJar('a');
        due("p48 the line", 0, x.writeShelf(0));
        x.type('q');
        due("p48 removeJar", 7, x.undo());
        due("p48 jar back", 2, x.wordOf('a'));
        due("p48 echo back", 3, x.ageOf(0, 'a'));
        due("p48 execute", 6, x.undo());
        due("p48 time back", 2, x.time());
        due("p48 pass", 5, x.undo());
        due("p48 time 0", 0, x.time());
        due("p48 warming back", 1, x.warmingCount());
        due("p48 echo open", true, x.isOpen(0, 'a'));
        due("p48 say", 4, x.undo());
        due("p48 word back", 1, x.wordOf('a'));
        due("p48 lid closed", false, x.isOpen(0, 'a'));
        due("p48 warm", 3, x.undo());
        due("p48 no warming", 0, x.warmingCount());
        due("p48 cancelWarming", 2, x.undo());
        due("p48 warming back again", 1, x.warmingCount());
        due("p48 warm again", 1, x.undo());
        due("p48 hear", 0, x.undo());
        due("p48 not heard", 0, x.misses('c'));
        due("p48 no echo", 0, x.echoCount(0));
        refused("p48 only 8", STATE, x::undo);
        due("p48 shelf stays", 1, x.shelfCount());
        due("p48 the buffer stays", 2, x.type('q'));
    }

    private static void p48more() {
        EchoPantry x = new EchoPantry();
        x.addShelf(1, 9, 'r');
        x.setListening(0, true);
        due("p48 a listening that changes nothing", 1, x.undo());
        x.setListening(0, false);
        due("p48 setListening", 1, x.undo());
        due("p48 listens", true, x.isListening(0));
        due("p48 addShelf", 0, x.undo());
        due("p48 no shelf", 0, x.shelfCount());
        x.addJar('a', 1);
        refused("p48 a call that throws", STATE, () -> x.addJar('a', 1));
        refused("p48 a text that fails", STATE, () -> execute(x, "pass 1;jar a 1"));
        refused("p48 a malformed text", ARGUMENT, x::execute);
        x.save();
        due("p48 addJar alone", 0, x.undo());
        due("p48 no jar", 0, x.jarCount());
        for (int i = 1; i <= 30; i++) {
            x.pass(1);
        }
        refused("p48 a failing text keeps all 8", STATE, () -> execute(x, "pass 1;pass 0"));
        for (int left = 7; left >= 0; left--) {
            due("p48 left", left, x.undo());
        }
        due("p48 22 minutes stay", 22, x.time());
        refused("p48 none left", STATE, x::undo);
        x.pass(1);
        due("p48 one more", 0, x.undo());
    }

    private static void p49to50snapshots() {
        EchoPantry x = three(2, 5, 'l');
        refused("p50 none", STATE, x::restore);
        x.hear(0, 'a');
        x.warm(0, 'b', 3);
        due("p49 jars", 3, x.save());
        x.hear(0, 'a');
        x.removeJar('b');
        x.pass(9);
        x.addShelf(1, 1, 'r');
        x.writeShelf(0);
        x.type('q');
        due("p50 jars", 3, x.restore());
        due("p50 time", 0, x.time());
        due("p50 shelves", 1, x.shelfCount());
        due("p50 hits", 0, x.hits());
        due("p50 warmings", 1, x.warmingCount());
        due("p50 the line stays", '~', x.lineAt(3));
        due("p50 the buffer stays", 2, x.type('q'));
        refused("p50 nothing can be undone", STATE, x::undo);
        x.addJar('d', 1);
        due("p50 undo after it", 0, x.undo());
        x.addJar('d', 1);
        due("p50 kept", 3, x.restore());
        x.removeJar('a');
        due("p49 replaces", 2, x.save());
        due("p49 undo goes on", 0, x.undo());
        due("p49 undone", 3, x.jarCount());
        due("p50 the new one", 2, x.restore());
        EchoPantry y = new EchoPantry();
        y.addJar('a', 1);
        refused("p50 of another object", STATE, y::restore);
        due("p50 refused, undo goes on", 0, y.undo());
        due("p49 an empty pantry", 0, y.save());
        y.addJar('a', 1);
        due("p50 an empty pantry", 0, y.restore());
        due("p50 no jars", 0, y.jarCount());
    }

    public static void main(String[] args) {
        face();
        p01newObject();
        p02addJar();
        p03removeJar();
        p04say();
        p05to07jars();
        p08addShelf();
        p09to14shelves();
        p15to18echoes();
        p19to22echoes();
        p23to24truth();
        p25to26victims();
        p27hear();
        p28outcomeOf();
        p29warm();
        p30cancelWarming();
        p31pass();
        p32to35warmings();
        p36to40statistics();
        p41to42line();
        p41to42more();
        firstAndLastLetter();
        p43isConsistent();
        p44type();
        p45execute();
        p45failures();
        p46errorPosition();
        p46to47stay();
        p48undo();
        p48more();
        p49to50snapshots();
        System.out.println(checks + " checks, " + wrong + " wrong");
        if (wrong > 0) {
            System.exit(1);
        }
    }
}
