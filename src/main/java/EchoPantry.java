import java.util.NoSuchElementException;

/**
 * A simulator of caches in a pantry: jars say words, and shelves keep echoes of them, which
 * expire, are opened when the jar says another word, are warmed in advance, and are evicted
 * when a shelf is full.
 */
public final class EchoPantry {
    private static final int LETTERS = 26;
    private static final int MAX_JARS = 12;
    private static final int MAX_WORD = 99;
    private static final int MAX_SHELVES = 4;
    private static final int MAX_CAPACITY = 6;
    private static final int MAX_LIFETIME = 30;
    private static final int MAX_WARMINGS = 8;
    private static final int MAX_WARMING_MINUTES = 50;
    private static final int MAX_PASSING_MINUTES = 60;
    private static final int MAX_UNDO = 8;
    // One more than can be undone: the state before a modification that may still fail.
    private static final int UNDO_ROWS = 9;
    private static final int MAX_TEXT = 60;
    // The shortest command has 6 characters, so that no text has more commands than this.
    private static final int MAX_COMMANDS = 10;

    private static final int NO_FAULT = 0;
    private static final int BAD_INDEX = 1;
    private static final int NO_ELEMENT = 2;
    private static final int BAD_ARGUMENT = 3;
    private static final int BAD_STATE = 4;

    private static final int NO_KIND = -1;
    private static final int JAR = 0;
    private static final int SAY = 1;
    private static final int DROP = 2;
    private static final int SHELF = 3;
    private static final int HEAR = 4;
    private static final int WARM = 5;
    private static final int LISTEN = 6;
    private static final int DEAF = 7;
    private static final int PASS = 8;
    private static final int KINDS = 9;

    private static final int NONE = -1;
    private static final char NO_LETTER = ' ';

    private final State state = new State();
    private final History history = new History();
    private final State snapshot = new State();
    private boolean hasSnapshot = false;
    private final CommandText text = new CommandText();
    private int malformedAt = NONE;
    private int failedAt = NONE;
    private final StringBuilder line = new StringBuilder();

    public EchoPantry() {
    }

    // Jars.

    public int addJar(char letter, int word) throws IllegalArgumentException, IllegalStateException {
        refuse(state.newJarFault(letter, word));
        history.note(state);
        return state.putJar(letter, word);
    }

    public int removeJar(char letter) throws NoSuchElementException {
        refuse(state.jarFault(letter));
        history.note(state);
        return state.dropJar(letter);
    }

    public int say(char letter, int word) throws NoSuchElementException, IllegalArgumentException {
        refuse(state.wordFault(letter, word));
        history.note(state);
        return state.speak(letter, word);
    }

    public int jarCount() {
        return state.countJars();
    }

    public char jarAt(int position) throws IndexOutOfBoundsException {
        char letter = state.jarLetter(position);
        if (letter == NO_LETTER) {
            throw new IndexOutOfBoundsException("no such jar position");
        }
        return letter;
    }

    public int wordOf(char letter) throws NoSuchElementException {
        return wantJar(letter).word;
    }

    // Shelves and echoes.

    public int addShelf(int capacity, int lifetime, char policy)
            throws IllegalArgumentException, IllegalStateException {
        refuse(state.newShelfFault(capacity, lifetime, policy));
        history.note(state);
        return state.putShelf(capacity, lifetime, policy);
    }

    public boolean setListening(int shelf, boolean isListening) throws IndexOutOfBoundsException {
        Shelf changed = wantShelf(shelf);
        history.note(state);
        boolean didListen = changed.listens;
        changed.listens = isListening;
        return didListen;
    }

    public int shelfCount() {
        return state.countShelves();
    }

    public int capacityOf(int shelf) throws IndexOutOfBoundsException {
        return wantShelf(shelf).capacity;
    }

    public int lifetimeOf(int shelf) throws IndexOutOfBoundsException {
        return wantShelf(shelf).lifetime;
    }

    public char policyOf(int shelf) throws IndexOutOfBoundsException {
        return wantShelf(shelf).policy;
    }

    public boolean isListening(int shelf) throws IndexOutOfBoundsException {
        return wantShelf(shelf).listens;
    }

    public int echoCount(int shelf) throws IndexOutOfBoundsException {
        return wantShelf(shelf).countEchoes();
    }

    public char echoAt(int shelf, int position) throws IndexOutOfBoundsException, NoSuchElementException {
        char letter = wantShelf(shelf).letterAt(position);
        if (letter == NO_LETTER) {
            throw new NoSuchElementException("no such echo position");
        }
        return letter;
    }

    public boolean hasEcho(int shelf, char letter) throws IndexOutOfBoundsException {
        return wantShelf(shelf).find(letter) != null;
    }

    public int echoOf(int shelf, char letter) throws IndexOutOfBoundsException, NoSuchElementException {
        return wantEcho(shelf, letter).word;
    }

    public int ageOf(int shelf, char letter) throws IndexOutOfBoundsException, NoSuchElementException {
        return wantEcho(shelf, letter).age(state.minute);
    }

    public int hitsOf(int shelf, char letter) throws IndexOutOfBoundsException, NoSuchElementException {
        return wantEcho(shelf, letter).hitCount;
    }

    public boolean isExpired(int shelf, char letter) throws IndexOutOfBoundsException, NoSuchElementException {
        Echo echo = wantEcho(shelf, letter);
        return wantShelf(shelf).hasOutlived(echo, state.minute);
    }

    public boolean isOpen(int shelf, char letter) throws IndexOutOfBoundsException, NoSuchElementException {
        return wantEcho(shelf, letter).hasOpenLid;
    }

    public boolean isTrue(int shelf, char letter) throws IndexOutOfBoundsException, NoSuchElementException {
        return state.isTrueByCount(wantEcho(shelf, letter));
    }

    public boolean isTrueBySteps(int shelf, char letter)
            throws IndexOutOfBoundsException, NoSuchElementException {
        return state.isTrueByOrder(wantEcho(shelf, letter));
    }

    public char victimOf(int shelf) throws IndexOutOfBoundsException, NoSuchElementException {
        Echo victim = wantShelf(shelf).firstInOrder();
        if (victim == null) {
            throw new NoSuchElementException("no echoes on the shelf");
        }
        return victim.letter;
    }

    public char victimByScan(int shelf) throws IndexOutOfBoundsException, NoSuchElementException {
        Echo victim = wantShelf(shelf).firstByScan();
        if (victim == null) {
            throw new NoSuchElementException("no echoes on the shelf");
        }
        return victim.letter;
    }

    // Hearing, warming and time.

    public int hear(int shelf, char letter) throws IndexOutOfBoundsException, NoSuchElementException {
        refuse(state.hearFault(shelf, letter));
        history.note(state);
        return state.listenTo(shelf, letter);
    }

    public char outcomeOf(int shelf, char letter) throws IndexOutOfBoundsException, NoSuchElementException {
        refuse(state.hearFault(shelf, letter));
        return wantShelf(shelf).outcome(letter, state.minute);
    }

    public int warm(int shelf, char letter, int minutes)
            throws IndexOutOfBoundsException, NoSuchElementException, IllegalArgumentException,
            IllegalStateException {
        refuse(state.warmFault(shelf, letter, minutes));
        history.note(state);
        return state.planWarming(shelf, letter, minutes);
    }

    public int cancelWarming(int position) throws IndexOutOfBoundsException {
        Warming cancelled = wantWarming(position);
        history.note(state);
        state.removeWarming(cancelled);
        return state.countWarmings();
    }

    public int pass(int minutes) throws IllegalArgumentException {
        refuse(state.passFault(minutes));
        history.note(state);
        return state.letPass(minutes);
    }

    public int time() {
        return state.minute;
    }

    public int warmingCount() {
        return state.countWarmings();
    }

    public int warmingMinute(int position) throws IndexOutOfBoundsException {
        return wantWarming(position).minute;
    }

    public char warmingJar(int position) throws IndexOutOfBoundsException {
        return wantWarming(position).letter;
    }

    // Statistics, lines and checks.

    public int hits() {
        return state.hitTotal;
    }

    public int misses(char sort) throws IllegalArgumentException {
        if (sort == 'c') {
            return state.coldTotal;
        }
        if (sort == 'e') {
            return state.expiredTotal;
        }
        if (sort == 'o') {
            return state.openTotal;
        }
        throw new IllegalArgumentException("no such sort of misses");
    }

    public float hitShare() throws ArithmeticException {
        int hearings = state.hitTotal + state.coldTotal + state.expiredTotal + state.openTotal;
        if (hearings == 0) {
            throw new ArithmeticException("nothing was heard");
        }
        return (float) state.hitTotal / (float) hearings;
    }

    public double meanAge() throws ArithmeticException {
        int echoes = 0;
        int ages = 0;
        for (Shelf shelf : state.shelves) {
            echoes += shelf.countEchoes();
            ages += shelf.sumOfAges(state.minute);
        }
        if (echoes == 0) {
            throw new ArithmeticException("there are no echoes");
        }
        return (double) ages / (double) echoes;
    }

    public int shelfByHits(int rank) throws NoSuchElementException {
        for (int shelf = 0; shelf < MAX_SHELVES; shelf++) {
            if (state.findShelf(shelf) != null && state.rankByHits(shelf) == rank) {
                return shelf;
            }
        }
        throw new NoSuchElementException("no such rank");
    }

    public int writeShelf(int shelf) throws IndexOutOfBoundsException {
        Shelf written = wantShelf(shelf);
        line.setLength(0);
        for (char letter = 'a'; letter <= 'z'; letter++) {
            Echo echo = written.find(letter);
            if (echo != null) {
                writeEcho(echo, written.hasOutlived(echo, state.minute));
            }
        }
        return line.length();
    }

    public char lineAt(int index) throws IndexOutOfBoundsException {
        if (index < 0 || index >= line.length()) {
            throw new IndexOutOfBoundsException("no such character in the line");
        }
        return line.charAt(index);
    }

    public boolean isConsistent() {
        for (Shelf shelf : state.shelves) {
            if (shelf.firstInOrder() != shelf.firstByScan() || shelf.countEchoes() > shelf.capacity) {
                return false;
            }
            for (Echo echo : shelf.order) {
                if (echo.isThere && !state.isSound(echo)) {
                    return false;
                }
            }
        }
        return true;
    }

    // Text, undo and snapshots.

    public int type(char character) throws IllegalArgumentException, IllegalStateException {
        if (character < 32 || character > 126) {
            throw new IllegalArgumentException("a character that no text holds");
        }
        if (text.length >= MAX_TEXT) {
            throw new IllegalStateException("the text buffer is full");
        }
        return text.append(character);
    }

    public int execute() throws IllegalArgumentException, IllegalStateException {
        boolean isWellFormed = text.parse();
        text.length = 0;
        if (!isWellFormed) {
            malformedAt = text.at;
            throw new IllegalArgumentException("the text is malformed");
        }
        history.keep(state);
        for (int index = 0; index < text.commandCount; index++) {
            Command command = text.command(index);
            if (command == null || faultOf(command) != NO_FAULT) {
                history.takeBack(state);
                failedAt = index;
                throw new IllegalStateException("a command failed");
            }
            carryOut(command);
        }
        history.confirm();
        return text.commandCount;
    }

    public int errorPosition() throws NoSuchElementException {
        if (malformedAt == NONE) {
            throw new NoSuchElementException("no text was malformed");
        }
        return malformedAt;
    }

    public int failedCommand() throws NoSuchElementException {
        if (failedAt == NONE) {
            throw new NoSuchElementException("no command failed");
        }
        return failedAt;
    }

    public int undo() throws IllegalStateException {
        if (history.count == 0) {
            throw new IllegalStateException("nothing can be undone");
        }
        history.goBack(state);
        return history.count;
    }

    public int save() {
        snapshot.copyFrom(state);
        hasSnapshot = true;
        return state.countJars();
    }

    public int restore() throws IllegalStateException {
        if (!hasSnapshot) {
            throw new IllegalStateException("there is no snapshot");
        }
        state.copyFrom(snapshot);
        history.count = 0;
        return state.countJars();
    }

    private Jar wantJar(char letter) {
        Jar jar = state.findJar(letter);
        if (jar == null) {
            throw new NoSuchElementException("no such jar");
        }
        return jar;
    }

    private Shelf wantShelf(int shelf) {
        Shelf found = state.findShelf(shelf);
        if (found == null) {
            throw new IndexOutOfBoundsException("no such shelf");
        }
        return found;
    }

    private Echo wantEcho(int shelf, char letter) {
        Echo echo = wantShelf(shelf).find(letter);
        if (echo == null) {
            throw new NoSuchElementException("no such echo on the shelf");
        }
        return echo;
    }

    private Warming wantWarming(int position) {
        Warming warming = state.findWarming(position);
        if (warming == null) {
            throw new IndexOutOfBoundsException("no such warming");
        }
        return warming;
    }

    private static void refuse(int fault) {
        if (fault == BAD_INDEX) {
            throw new IndexOutOfBoundsException("no such shelf");
        }
        if (fault == NO_ELEMENT) {
            throw new NoSuchElementException("no such jar");
        }
        if (fault == BAD_ARGUMENT) {
            throw new IllegalArgumentException("a parameter is out of range");
        }
        if (fault == BAD_STATE) {
            throw new IllegalStateException("there is no room, or there is such a jar");
        }
    }

    private void writeEcho(Echo echo, boolean isPast) {
        if (line.length() > 0) {
            line.append(' ');
        }
        line.append(echo.letter).append(echo.word);
        if (isPast) {
            line.append('~');
        }
        if (echo.hasOpenLid) {
            line.append('!');
        }
    }

    private int faultOf(Command command) {
        switch (command.kind) {
            case JAR:
                return state.newJarFault(command.letter, command.number);
            case SAY:
                return state.wordFault(command.letter, command.number);
            case DROP:
                return state.jarFault(command.letter);
            case SHELF:
                return state.newShelfFault(command.digit, command.number, command.policy);
            case HEAR:
                return state.hearFault(command.digit, command.letter);
            case WARM:
                return state.warmFault(command.digit, command.letter, command.number);
            case LISTEN:
            case DEAF:
                return state.shelfFault(command.digit);
            case PASS:
                return state.passFault(command.number);
            default:
                return BAD_ARGUMENT;
        }
    }

    private void carryOut(Command command) {
        switch (command.kind) {
            case JAR:
                state.putJar(command.letter, command.number);
                break;
            case SAY:
                state.speak(command.letter, command.number);
                break;
            case DROP:
                state.dropJar(command.letter);
                break;
            case SHELF:
                state.putShelf(command.digit, command.number, command.policy);
                break;
            case HEAR:
                state.listenTo(command.digit, command.letter);
                break;
            case WARM:
                state.planWarming(command.digit, command.letter, command.number);
                break;
            case LISTEN:
                state.tune(command.digit, true);
                break;
            case DEAF:
                state.tune(command.digit, false);
                break;
            case PASS:
                state.letPass(command.number);
                break;
            default:
                break;
        }
    }

    /** A jar, or a row that is free for one. */
    private static final class Jar {
        boolean isThere = false;
        int word = 0;
        int timesSpoken = 0;
        int lastStep = 0;

        void copyFrom(Jar other) {
            isThere = other.isThere;
            word = other.word;
            timesSpoken = other.timesSpoken;
            lastStep = other.lastStep;
        }

        void speak(int newWord, int step) {
            word = newWord;
            timesSpoken++;
            lastStep = step;
        }
    }

    /** An echo on a shelf, or a row that is free for one. */
    private static final class Echo {
        boolean isThere = false;
        char letter = NO_LETTER;
        int word = 0;
        int fetchMinute = 0;
        int fetchStep = 0;
        int heardStep = 0;
        int hitCount = 0;
        int timesSpoken = 0;
        boolean hasOpenLid = false;

        void copyFrom(Echo other) {
            isThere = other.isThere;
            letter = other.letter;
            word = other.word;
            fetchMinute = other.fetchMinute;
            fetchStep = other.fetchStep;
            heardStep = other.heardStep;
            hitCount = other.hitCount;
            timesSpoken = other.timesSpoken;
            hasOpenLid = other.hasOpenLid;
        }

        void fill(char newLetter, Jar jar, int minute, int step) {
            isThere = true;
            letter = newLetter;
            word = jar.word;
            fetchMinute = minute;
            fetchStep = step;
            heardStep = step;
            hitCount = 0;
            timesSpoken = jar.timesSpoken;
            hasOpenLid = false;
        }

        int age(int minute) {
            return minute - fetchMinute;
        }
    }

    /** A shelf, or a row that is free for one; a free row has no echoes and does not listen. */
    private static final class Shelf {
        boolean isThere = false;
        int capacity = 0;
        int lifetime = 0;
        char policy = NO_LETTER;
        boolean listens = false;
        int hitCount = 0;
        /** The echoes in the order in which they would be evicted, then the free rows. */
        final Echo[] order = new Echo[MAX_CAPACITY];

        Shelf() {
            for (int i = 0; i < order.length; i++) {
                order[i] = new Echo();
            }
        }

        void copyFrom(Shelf other) {
            isThere = other.isThere;
            capacity = other.capacity;
            lifetime = other.lifetime;
            policy = other.policy;
            listens = other.listens;
            hitCount = other.hitCount;
            for (int i = 0; i < order.length && i < other.order.length; i++) {
                order[i].copyFrom(other.order[i]);
            }
        }

        void fill(int newCapacity, int newLifetime, char newPolicy) {
            isThere = true;
            capacity = newCapacity;
            lifetime = newLifetime;
            policy = newPolicy;
            listens = true;
            hitCount = 0;
        }

        int countEchoes() {
            int count = 0;
            for (Echo echo : order) {
                if (echo.isThere) {
                    count++;
                }
            }
            return count;
        }

        Echo find(char letter) {
            for (Echo echo : order) {
                if (echo.isThere && echo.letter == letter) {
                    return echo;
                }
            }
            return null;
        }

        char letterAt(int position) {
            int before = 0;
            for (char letter = 'a'; letter <= 'z'; letter++) {
                if (find(letter) != null) {
                    if (before == position) {
                        return letter;
                    }
                    before++;
                }
            }
            return NO_LETTER;
        }

        int sumOfAges(int minute) {
            int sum = 0;
            for (Echo echo : order) {
                if (echo.isThere) {
                    sum += echo.age(minute);
                }
            }
            return sum;
        }

        boolean hasOutlived(Echo echo, int minute) {
            return echo.age(minute) >= lifetime;
        }

        char outcome(char letter, int minute) {
            Echo echo = find(letter);
            if (echo == null) {
                return 'c';
            }
            if (hasOutlived(echo, minute)) {
                return 'e';
            }
            return echo.hasOpenLid ? 'o' : 'h';
        }

        Echo firstInOrder() {
            Echo first = order[0];
            return first.isThere ? first : null;
        }

        Echo firstByScan() {
            Echo first = null;
            for (Echo echo : order) {
                if (echo.isThere && (first == null || isBefore(echo, first))) {
                    first = echo;
                }
            }
            return first;
        }

        boolean isBefore(Echo one, Echo other) {
            if (policy == 'r') {
                return one.heardStep < other.heardStep;
            }
            if (policy == 'l' && one.hitCount != other.hitCount) {
                return one.hitCount < other.hitCount;
            }
            return one.fetchStep < other.fetchStep;
        }

        /** Puts the echoes in order again after a change of one of them, the free rows last. */
        void sort() {
            for (int end = 1; end < order.length; end++) {
                for (int at = end; at > 0; at--) {
                    Echo one = order[at];
                    Echo before = order[at - 1];
                    if (!one.isThere || before.isThere && !isBefore(one, before)) {
                        break;
                    }
                    order[at] = before;
                    order[at - 1] = one;
                }
            }
        }

        boolean remove(Echo echo) {
            if (echo == null) {
                return false;
            }
            echo.isThere = false;
            sort();
            return true;
        }

        void fetch(char letter, Jar jar, int minute, int step) {
            // The shelf cannot be full any more once an older echo of this jar is removed.
            Echo removed = find(letter);
            if (removed == null && countEchoes() >= capacity) {
                removed = firstInOrder();
            }
            if (removed != null) {
                removed.isThere = false;
            }
            for (Echo row : order) {
                if (!row.isThere) {
                    row.fill(letter, jar, minute, step);
                    break;
                }
            }
            sort();
        }

        int hit(Echo echo, int step) {
            echo.hitCount++;
            echo.heardStep = step;
            hitCount++;
            sort();
            return echo.word;
        }

        boolean openLid(char letter) {
            Echo echo = find(letter);
            if (echo == null || echo.hasOpenLid) {
                return false;
            }
            echo.hasOpenLid = true;
            return true;
        }
    }

    /** A planned warming, or a row that is free for one. */
    private static final class Warming {
        boolean isThere = false;
        int minute = 0;
        int shelf = 0;
        char letter = NO_LETTER;

        void copyFrom(Warming other) {
            isThere = other.isThere;
            minute = other.minute;
            shelf = other.shelf;
            letter = other.letter;
        }

        boolean isBefore(Warming other) {
            return isThere && (!other.isThere || minute < other.minute);
        }
    }

    /** All that is undone, saved and restored. */
    private static final class State {
        final Jar[] jars = new Jar[LETTERS];
        final Shelf[] shelves = new Shelf[MAX_SHELVES];
        /** The warmings in their order, then the free rows. */
        final Warming[] warmings = new Warming[MAX_WARMINGS];
        int minute = 0;
        int nextStep = 0;
        int hitTotal = 0;
        int coldTotal = 0;
        int expiredTotal = 0;
        int openTotal = 0;

        State() {
            for (int i = 0; i < jars.length; i++) {
                jars[i] = new Jar();
            }
            for (int i = 0; i < shelves.length; i++) {
                shelves[i] = new Shelf();
            }
            for (int i = 0; i < warmings.length; i++) {
                warmings[i] = new Warming();
            }
        }

        void copyFrom(State other) {
            for (int i = 0; i < jars.length && i < other.jars.length; i++) {
                jars[i].copyFrom(other.jars[i]);
            }
            for (int i = 0; i < shelves.length && i < other.shelves.length; i++) {
                shelves[i].copyFrom(other.shelves[i]);
            }
            for (int i = 0; i < warmings.length && i < other.warmings.length; i++) {
                warmings[i].copyFrom(other.warmings[i]);
            }
            minute = other.minute;
            nextStep = other.nextStep;
            hitTotal = other.hitTotal;
            coldTotal = other.coldTotal;
            expiredTotal = other.expiredTotal;
            openTotal = other.openTotal;
        }

        /** The row for a letter, whether there is such a jar or not; null for another character. */
        Jar jarRow(char letter) {
            int index = letter - 'a';
            return index < 0 || index >= jars.length ? null : jars[index];
        }

        Jar findJar(char letter) {
            Jar row = jarRow(letter);
            return row != null && row.isThere ? row : null;
        }

        Shelf findShelf(int shelf) {
            if (shelf < 0 || shelf >= shelves.length) {
                return null;
            }
            Shelf row = shelves[shelf];
            return row.isThere ? row : null;
        }

        Warming findWarming(int position) {
            if (position < 0 || position >= warmings.length) {
                return null;
            }
            Warming row = warmings[position];
            return row.isThere ? row : null;
        }

        int newJarFault(char letter, int word) {
            if (letter < 'a' || letter > 'z' || word < 0 || word > MAX_WORD) {
                return BAD_ARGUMENT;
            }
            return countJars() >= MAX_JARS || findJar(letter) != null ? BAD_STATE : NO_FAULT;
        }

        int jarFault(char letter) {
            return findJar(letter) == null ? NO_ELEMENT : NO_FAULT;
        }

        int wordFault(char letter, int word) {
            if (findJar(letter) == null) {
                return NO_ELEMENT;
            }
            return word < 0 || word > MAX_WORD ? BAD_ARGUMENT : NO_FAULT;
        }

        int newShelfFault(int capacity, int lifetime, char policy) {
            if (capacity < 1 || capacity > MAX_CAPACITY || lifetime < 1 || lifetime > MAX_LIFETIME) {
                return BAD_ARGUMENT;
            }
            if (policy != 'r' && policy != 'o' && policy != 'l') {
                return BAD_ARGUMENT;
            }
            return countShelves() >= MAX_SHELVES ? BAD_STATE : NO_FAULT;
        }

        int shelfFault(int shelf) {
            return findShelf(shelf) == null ? BAD_INDEX : NO_FAULT;
        }

        int hearFault(int shelf, char letter) {
            return findShelf(shelf) == null ? BAD_INDEX : jarFault(letter);
        }

        int warmFault(int shelf, char letter, int minutes) {
            int fault = hearFault(shelf, letter);
            if (fault != NO_FAULT) {
                return fault;
            }
            if (minutes < 1 || minutes > MAX_WARMING_MINUTES) {
                return BAD_ARGUMENT;
            }
            return countWarmings() >= MAX_WARMINGS ? BAD_STATE : NO_FAULT;
        }

        int passFault(int minutes) {
            return minutes < 1 || minutes > MAX_PASSING_MINUTES ? BAD_ARGUMENT : NO_FAULT;
        }

        int countJars() {
            int count = 0;
            for (Jar jar : jars) {
                if (jar.isThere) {
                    count++;
                }
            }
            return count;
        }

        char jarLetter(int position) {
            int before = 0;
            for (char letter = 'a'; letter <= 'z'; letter++) {
                if (findJar(letter) != null) {
                    if (before == position) {
                        return letter;
                    }
                    before++;
                }
            }
            return NO_LETTER;
        }

        int putJar(char letter, int word) {
            Jar jar = jarRow(letter);
            if (jar != null) {
                jar.isThere = true;
                jar.timesSpoken = 0;
                jar.speak(word, nextStep);
                nextStep++;
            }
            return countJars();
        }

        int dropJar(char letter) {
            Jar jar = findJar(letter);
            if (jar != null) {
                jar.isThere = false;
            }
            int removed = 0;
            for (Shelf shelf : shelves) {
                if (shelf.remove(shelf.find(letter))) {
                    removed++;
                }
            }
            return removed;
        }

        int speak(char letter, int word) {
            Jar jar = findJar(letter);
            if (jar == null) {
                return 0;
            }
            jar.speak(word, nextStep);
            nextStep++;
            int opened = 0;
            for (Shelf shelf : shelves) {
                if (shelf.listens && shelf.openLid(letter)) {
                    opened++;
                }
            }
            return opened;
        }

        int countShelves() {
            int count = 0;
            for (Shelf shelf : shelves) {
                if (shelf.isThere) {
                    count++;
                }
            }
            return count;
        }

        int putShelf(int capacity, int lifetime, char policy) {
            int number = countShelves();
            if (number < shelves.length) {
                shelves[number].fill(capacity, lifetime, policy);
            }
            return number;
        }

        void tune(int shelf, boolean isToListen) {
            Shelf tuned = findShelf(shelf);
            if (tuned != null) {
                tuned.listens = isToListen;
            }
        }

        int rankByHits(int shelf) {
            Shelf ranked = findShelf(shelf);
            int rank = 0;
            for (int i = 0; i < shelves.length; i++) {
                Shelf other = findShelf(i);
                if (ranked != null && other != null
                        && (other.hitCount > ranked.hitCount || other.hitCount == ranked.hitCount && i < shelf)) {
                    rank++;
                }
            }
            return rank;
        }

        boolean isTrueByCount(Echo echo) {
            Jar jar = findJar(echo.letter);
            return jar != null && echo.timesSpoken == jar.timesSpoken;
        }

        boolean isTrueByOrder(Echo echo) {
            Jar jar = findJar(echo.letter);
            return jar != null && echo.fetchStep > jar.lastStep;
        }

        boolean isSound(Echo echo) {
            if (isTrueByCount(echo) != isTrueByOrder(echo)) {
                return false;
            }
            Jar jar = findJar(echo.letter);
            return !isTrueByCount(echo) || jar != null && jar.word == echo.word;
        }

        int listenTo(int shelf, char letter) {
            Shelf place = findShelf(shelf);
            Jar jar = findJar(letter);
            if (place == null || jar == null) {
                return 0;
            }
            Echo echo = place.find(letter);
            char outcome = place.outcome(letter, minute);
            countOutcome(outcome);
            if (outcome == 'h' && echo != null) {
                int word = place.hit(echo, nextStep);
                nextStep++;
                return word;
            }
            fetch(shelf, letter);
            return jar.word;
        }

        void countOutcome(char outcome) {
            if (outcome == 'h') {
                hitTotal++;
            } else if (outcome == 'c') {
                coldTotal++;
            } else if (outcome == 'e') {
                expiredTotal++;
            } else {
                openTotal++;
            }
        }

        boolean fetch(int shelf, char letter) {
            Shelf place = findShelf(shelf);
            Jar jar = findJar(letter);
            if (place == null || jar == null) {
                return false;
            }
            place.fetch(letter, jar, minute, nextStep);
            nextStep++;
            return true;
        }

        int countWarmings() {
            int count = 0;
            for (Warming warming : warmings) {
                if (warming.isThere) {
                    count++;
                }
            }
            return count;
        }

        int planWarming(int shelf, char letter, int minutes) {
            int due = minute + minutes;
            int position = 0;
            for (Warming warming : warmings) {
                if (warming.isThere && warming.minute <= due) {
                    position++;
                }
            }
            for (Warming row : warmings) {
                if (!row.isThere) {
                    row.isThere = true;
                    row.minute = due;
                    row.shelf = shelf;
                    row.letter = letter;
                    break;
                }
            }
            sortWarmings();
            return position;
        }

        void removeWarming(Warming warming) {
            warming.isThere = false;
            sortWarmings();
        }

        /** Keeps warmings for the same minute as they stood, which is as they were planned. */
        void sortWarmings() {
            for (int end = 1; end < warmings.length; end++) {
                for (int at = end; at > 0; at--) {
                    Warming one = warmings[at];
                    Warming before = warmings[at - 1];
                    if (!one.isBefore(before)) {
                        break;
                    }
                    warmings[at] = before;
                    warmings[at - 1] = one;
                }
            }
        }

        int letPass(int minutes) {
            int fetched = 0;
            for (int passed = 0; passed < minutes; passed++) {
                minute++;
                for (Warming warming : warmings) {
                    if (warming.isThere && warming.minute == minute) {
                        fetched += fetch(warming.shelf, warming.letter) ? 1 : 0;
                        warming.isThere = false;
                    }
                }
                sortWarmings();
            }
            return fetched;
        }
    }

    /** The states before the last modifications, in a ring. */
    private static final class History {
        final State[] rows = new State[UNDO_ROWS];
        int first = 0;
        int count = 0;

        History() {
            for (int i = 0; i < rows.length; i++) {
                rows[i] = new State();
            }
        }

        State row(int position) {
            return rows[Math.floorMod(first + position, UNDO_ROWS)];
        }

        void note(State state) {
            keep(state);
            confirm();
        }

        /** Keeps the state before a modification that may still fail. */
        void keep(State state) {
            row(count).copyFrom(state);
        }

        void takeBack(State state) {
            state.copyFrom(row(count));
        }

        void confirm() {
            if (count < MAX_UNDO) {
                count++;
            } else {
                first = Math.floorMod(first + 1, UNDO_ROWS);
            }
        }

        void goBack(State state) {
            count--;
            takeBack(state);
        }
    }

    /** A command with its parameters, or a row that is free for one. */
    private static final class Command {
        int kind = NO_KIND;
        char letter = NO_LETTER;
        int digit = 0;
        int number = 0;
        char policy = NO_LETTER;
    }

    /** The text buffer, and the commands that its text stands for. */
    private static final class CommandText {
        final char[] characters = new char[MAX_TEXT];
        int length = 0;
        /** The index of the next character to be read; of a malformed text, its error position. */
        int at = 0;
        final Command[] commands = new Command[MAX_COMMANDS];
        int commandCount = 0;

        CommandText() {
            for (int i = 0; i < commands.length; i++) {
                commands[i] = new Command();
            }
        }

        int append(char character) {
            if (length >= 0 && length < characters.length) {
                characters[length] = character;
                length++;
            }
            return length;
        }

        Command command(int index) {
            return index < 0 || index >= commands.length ? null : commands[index];
        }

        boolean parse() {
            at = 0;
            commandCount = 0;
            for (Command command : commands) {
                if (!readCommand(command)) {
                    return false;
                }
                commandCount++;
                if (at >= length) {
                    return true;
                }
                if (!readSign(';')) {
                    return false;
                }
            }
            return false;
        }

        boolean readCommand(Command command) {
            command.kind = readKeyword();
            switch (command.kind) {
                case JAR:
                case SAY:
                    return readLetter(command) && readNumber(command);
                case DROP:
                    return readLetter(command);
                case SHELF:
                    return readDigit(command) && readNumber(command) && readSign(' ') && readPolicy(command);
                case HEAR:
                    return readDigit(command) && readSign(' ') && readLetter(command);
                case WARM:
                    return readDigit(command) && readSign(' ') && readLetter(command) && readNumber(command);
                case LISTEN:
                case DEAF:
                    return readDigit(command);
                case PASS:
                    return readNumber(command);
                default:
                    return false;
            }
        }

        /** The next character, or 0, which no text holds, at the end of the text. */
        char next() {
            return at >= 0 && at < length && at < characters.length ? characters[at] : (char) 0;
        }

        /** Reads the longest beginning of a keyword, so that it stops where no keyword goes on. */
        int readKeyword() {
            int start = at;
            int longest = 0;
            for (int kind = 0; kind < KINDS; kind++) {
                String keyword = keywordOf(kind);
                int same = countSame(keyword, start);
                if (same == keyword.length()) {
                    at = start + same;
                    return kind;
                }
                longest = Math.max(longest, same);
            }
            at = start + longest;
            return NO_KIND;
        }

        int countSame(String keyword, int start) {
            for (int i = 0; i < keyword.length(); i++) {
                at = start + i;
                if (next() != keyword.charAt(i)) {
                    return i;
                }
            }
            return keyword.length();
        }

        static String keywordOf(int kind) {
            switch (kind) {
                case JAR:
                    return "jar ";
                case SAY:
                    return "say ";
                case DROP:
                    return "drop ";
                case SHELF:
                    return "shelf";
                case HEAR:
                    return "hear";
                case WARM:
                    return "warm";
                case LISTEN:
                    return "listen";
                case DEAF:
                    return "deaf";
                default:
                    return "pass";
            }
        }

        boolean readSign(char sign) {
            if (next() != sign) {
                return false;
            }
            at++;
            return true;
        }

        boolean readLetter(Command command) {
            char letter = next();
            if (letter < 'a' || letter > 'z') {
                return false;
            }
            command.letter = letter;
            at++;
            return true;
        }

        boolean readPolicy(Command command) {
            char policy = next();
            if (policy != 'r' && policy != 'o' && policy != 'l') {
                return false;
            }
            command.policy = policy;
            at++;
            return true;
        }

        boolean readDigit(Command command) {
            if (!readSign(' ') || !isDigit(next())) {
                return false;
            }
            command.digit = next() - '0';
            at++;
            return true;
        }

        boolean readNumber(Command command) {
            if (!readSign(' ') || !isDigit(next())) {
                return false;
            }
            command.number = next() - '0';
            at++;
            if (isDigit(next())) {
                command.number = command.number * 10 + (next() - '0');
                at++;
            }
            return true;
        }

        static boolean isDigit(char character) {
            return character >= '0' && character <= '9';
        }
    }
}
