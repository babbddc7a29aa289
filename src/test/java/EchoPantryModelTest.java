import java.util.ArrayDeque;
import java.util.ArrayList;
import java.util.Comparator;
import java.util.Deque;
import java.util.List;
import java.util.Map;
import java.util.NoSuchElementException;
import java.util.TreeMap;
import java.util.regex.Matcher;
import java.util.regex.Pattern;

/**
 * Compares EchoPantry with a second, slower pantry that is written from the document alone, over
 * many runs of at most 512 calls each. The runs are the same each time.
 */
public final class EchoPantryModelTest {
    private static final int RUNS = 6000;
    private static final int CALLS = 512;

    private static int wrong = 0;

    // ---- the second pantry -------------------------------------------------------------------

    private record Echo(char jar, int word, int minute, int fetched, int heard, int hits, boolean open) {
        Echo hit(int step) {
            return new Echo(jar, word, minute, fetched, step, hits + 1, open);
        }

        Echo opened() {
            return new Echo(jar, word, minute, fetched, heard, hits, true);
        }
    }

    private record Warming(int shelf, char jar, int minute) {
    }

    private static final class Shelf {
        int capacity;
        int lifetime;
        char policy;
        boolean listens = true;
        int hits;
        TreeMap<Character, Echo> echoes = new TreeMap<>();

        Shelf copy() {
            Shelf copy = new Shelf();
            copy.capacity = capacity;
            copy.lifetime = lifetime;
            copy.policy = policy;
            copy.listens = listens;
            copy.hits = hits;
            copy.echoes = new TreeMap<>(echoes);
            return copy;
        }

        Echo victim() {
            Comparator<Echo> order = Comparator.comparingInt(Echo::fetched);
            if (policy == 'r') {
                order = Comparator.comparingInt(Echo::heard);
            } else if (policy == 'l') {
                order = Comparator.comparingInt(Echo::hits).thenComparingInt(Echo::fetched);
            }
            return echoes.values().stream().min(order).orElseThrow(NoSuchElementException::new);
        }
    }

    /** What is undone; every word that was ever said is kept with its step. */
    private static final class World {
        TreeMap<Character, Integer> words = new TreeMap<>();
        TreeMap<Character, Integer> spokenAt = new TreeMap<>();
        List<Shelf> shelves = new ArrayList<>();
        List<Warming> warmings = new ArrayList<>();
        Map<Character, Integer> outcomes = new TreeMap<>();
        int time;
        int step;

        World copy() {
            World copy = new World();
            copy.words = new TreeMap<>(words);
            copy.spokenAt = new TreeMap<>(spokenAt);
            for (Shelf shelf : shelves) {
                copy.shelves.add(shelf.copy());
            }
            copy.warmings = new ArrayList<>(warmings);
            copy.outcomes = new TreeMap<>(outcomes);
            copy.time = time;
            copy.step = step;
            return copy;
        }
    }

    private static final class Model {
        private static final Pattern COMMAND = Pattern.compile(
                "jar [a-z] \\d\\d?|say [a-z] \\d\\d?|drop [a-z]|shelf \\d \\d\\d? [rol]|hear \\d [a-z]"
                        + "|warm \\d [a-z] \\d\\d?|listen \\d|deaf \\d|pass \\d\\d?");
        private static final Pattern TEXT = Pattern.compile("(" + COMMAND + ")(;(" + COMMAND + "))*");

        World w = new World();
        World saved;
        Deque<World> past = new ArrayDeque<>();
        String buffer = "";
        String line = "";
        int malformed = -1;
        int failed = -1;
        boolean isInText;

        private void note() {
            if (!isInText) {
                past.addLast(w.copy());
                if (past.size() > 8) {
                    past.removeFirst();
                }
            }
        }

        private Shelf shelf(int shelf) {
            if (shelf < 0 || shelf >= w.shelves.size()) {
                throw new IndexOutOfBoundsException();
            }
            return w.shelves.get(shelf);
        }

        private Echo echo(int shelf, char letter) {
            Echo echo = shelf(shelf).echoes.get(letter);
            if (echo == null) {
                throw new NoSuchElementException();
            }
            return echo;
        }

        private void jar(char letter) {
            if (!w.words.containsKey(letter)) {
                throw new NoSuchElementException();
            }
        }

        private static void argument(boolean isRight) {
            if (!isRight) {
                throw new IllegalArgumentException();
            }
        }

        private static void state(boolean isRight) {
            if (!isRight) {
                throw new IllegalStateException();
            }
        }

        private static void index(boolean isRight) {
            if (!isRight) {
                throw new IndexOutOfBoundsException();
            }
        }

        int addJar(char letter, int word) {
            argument("abcdefghijklmnopqrstuvwxyz".indexOf(letter) >= 0 && word >= 0 && word <= 99);
            state(w.words.size() < 12 && !w.words.containsKey(letter));
            note();
            w.words.put(letter, word);
            w.spokenAt.put(letter, w.step++);
            return w.words.size();
        }

        int removeJar(char letter) {
            jar(letter);
            note();
            w.words.remove(letter);
            int removed = 0;
            for (Shelf shelf : w.shelves) {
                removed += shelf.echoes.remove(letter) == null ? 0 : 1;
            }
            return removed;
        }

        int say(char letter, int word) {
            jar(letter);
            argument(word >= 0 && word <= 99);
            note();
            w.words.put(letter, word);
            w.spokenAt.put(letter, w.step++);
            int opened = 0;
            for (Shelf shelf : w.shelves) {
                Echo echo = shelf.echoes.get(letter);
                if (shelf.listens && echo != null && !echo.open()) {
                    shelf.echoes.put(letter, echo.opened());
                    opened++;
                }
            }
            return opened;
        }

        char jarAt(int position) {
            index(position >= 0 && position < w.words.size());
            return new ArrayList<>(w.words.keySet()).get(position);
        }

        int wordOf(char letter) {
            jar(letter);
            return w.words.get(letter);
        }

        int addShelf(int capacity, int lifetime, char policy) {
            argument(capacity >= 1 && capacity <= 6 && lifetime >= 1 && lifetime <= 30);
            argument("rol".indexOf(policy) >= 0);
            state(w.shelves.size() < 4);
            note();
            Shelf shelf = new Shelf();
            shelf.capacity = capacity;
            shelf.lifetime = lifetime;
            shelf.policy = policy;
            w.shelves.add(shelf);
            return w.shelves.size() - 1;
        }

        boolean setListening(int shelf, boolean isListening) {
            shelf(shelf);
            note();
            boolean before = shelf(shelf).listens;
            shelf(shelf).listens = isListening;
            return before;
        }

        char echoAt(int shelf, int position) {
            List<Character> letters = new ArrayList<>(shelf(shelf).echoes.keySet());
            if (position < 0 || position >= letters.size()) {
                throw new NoSuchElementException();
            }
            return letters.get(position);
        }

        boolean isExpired(int shelf, char letter) {
            return w.time - echo(shelf, letter).minute() >= shelf(shelf).lifetime;
        }

        boolean isTrue(int shelf, char letter) {
            return echo(shelf, letter).fetched() > w.spokenAt.get(letter);
        }

        char outcomeOf(int shelf, char letter) {
            shelf(shelf);
            jar(letter);
            if (!shelf(shelf).echoes.containsKey(letter)) {
                return 'c';
            }
            if (isExpired(shelf, letter)) {
                return 'e';
            }
            return echo(shelf, letter).open() ? 'o' : 'h';
        }

        int hear(int shelf, char letter) {
            char outcome = outcomeOf(shelf, letter);
            note();
            w.outcomes.merge(outcome, 1, Integer::sum);
            if (outcome == 'h') {
                shelf(shelf).hits++;
                shelf(shelf).echoes.put(letter, echo(shelf, letter).hit(w.step++));
                return echo(shelf, letter).word();
            }
            fetch(shelf(shelf), letter);
            return w.words.get(letter);
        }

        private void fetch(Shelf shelf, char letter) {
            shelf.echoes.remove(letter);
            if (shelf.echoes.size() == shelf.capacity) {
                shelf.echoes.remove(shelf.victim().jar());
            }
            int step = w.step++;
            shelf.echoes.put(letter, new Echo(letter, w.words.get(letter), w.time, step, step, 0, false));
        }

        int warm(int shelf, char letter, int minutes) {
            shelf(shelf);
            jar(letter);
            argument(minutes >= 1 && minutes <= 50);
            state(w.warmings.size() < 8);
            note();
            Warming warming = new Warming(shelf, letter, w.time + minutes);
            w.warmings.add(warming);
            w.warmings.sort(Comparator.comparingInt(Warming::minute));
            int position = 0;
            while (w.warmings.get(position) != warming) {
                position++;
            }
            return position;
        }

        int cancelWarming(int position) {
            index(position >= 0 && position < w.warmings.size());
            note();
            w.warmings.remove(position);
            return w.warmings.size();
        }

        int pass(int minutes) {
            argument(minutes >= 1 && minutes <= 60);
            note();
            int fetched = 0;
            for (int i = 0; i < minutes; i++) {
                w.time++;
                while (!w.warmings.isEmpty() && w.warmings.get(0).minute() == w.time) {
                    Warming warming = w.warmings.remove(0);
                    if (w.words.containsKey(warming.jar())) {
                        fetch(shelf(warming.shelf()), warming.jar());
                        fetched++;
                    }
                }
            }
            return fetched;
        }

        Warming warming(int position) {
            index(position >= 0 && position < w.warmings.size());
            return w.warmings.get(position);
        }

        int outcomes(char sort) {
            return w.outcomes.getOrDefault(sort, 0);
        }

        int misses(char sort) {
            argument("ceo".indexOf(sort) >= 0);
            return outcomes(sort);
        }

        float hitShare() {
            int hearings = w.outcomes.values().stream().mapToInt(Integer::intValue).sum();
            if (hearings == 0) {
                throw new ArithmeticException();
            }
            return (float) outcomes('h') / (float) hearings;
        }

        double meanAge() {
            int sum = 0;
            int count = 0;
            for (Shelf shelf : w.shelves) {
                for (Echo echo : shelf.echoes.values()) {
                    sum += w.time - echo.minute();
                    count++;
                }
            }
            if (count == 0) {
                throw new ArithmeticException();
            }
            return (double) sum / (double) count;
        }

        int shelfByHits(int rank) {
            if (rank < 0 || rank >= w.shelves.size()) {
                throw new NoSuchElementException();
            }
            List<Integer> numbers = new ArrayList<>();
            for (int i = 0; i < w.shelves.size(); i++) {
                numbers.add(i);
            }
            numbers.sort(Comparator.comparingInt(i -> -w.shelves.get(i).hits));
            return numbers.get(rank);
        }

        int writeShelf(int shelf) {
            List<String> parts = new ArrayList<>();
            for (char letter : shelf(shelf).echoes.keySet()) {
                Echo echo = echo(shelf, letter);
                parts.add("" + letter + echo.word() + (isExpired(shelf, letter) ? "~" : "") + (echo.open() ? "!" : ""));
            }
            line = String.join(" ", parts);
            return line.length();
        }

        char lineAt(int index) {
            index(index >= 0 && index < line.length());
            return line.charAt(index);
        }

        int type(char character) {
            argument(character >= ' ' && character <= '~');
            state(buffer.length() < 60);
            buffer += character;
            return buffer.length();
        }

        private int wrongCharacter(String text) {
            for (int length = 1; length <= text.length(); length++) {
                Matcher matcher = TEXT.matcher(text.substring(0, length));
                if (!matcher.matches() && !matcher.hitEnd()) {
                    return length - 1;
                }
            }
            return text.length();
        }

        private void run(String command) {
            String[] words = command.split(" ");
            char letter = words[words.length > 2 && Character.isDigit(words[1].charAt(0)) ? 2 : 1].charAt(0);
            switch (words[0]) {
                case "jar" -> addJar(letter, Integer.parseInt(words[2]));
                case "say" -> say(letter, Integer.parseInt(words[2]));
                case "drop" -> removeJar(letter);
                case "shelf" -> addShelf(Integer.parseInt(words[1]), Integer.parseInt(words[2]), words[3].charAt(0));
                case "hear" -> hear(Integer.parseInt(words[1]), letter);
                case "warm" -> warm(Integer.parseInt(words[1]), letter, Integer.parseInt(words[3]));
                case "listen" -> setListening(Integer.parseInt(words[1]), true);
                case "deaf" -> setListening(Integer.parseInt(words[1]), false);
                default -> pass(Integer.parseInt(words[1]));
            }
        }

        int execute() {
            String text = buffer;
            buffer = "";
            if (!TEXT.matcher(text).matches()) {
                malformed = wrongCharacter(text);
                throw new IllegalArgumentException();
            }
            World before = w.copy();
            String[] commands = text.split(";");
            for (int i = 0; i < commands.length; i++) {
                try {
                    isInText = true;
                    run(commands[i]);
                } catch (RuntimeException e) {
                    w = before;
                    failed = i;
                    throw new IllegalStateException();
                } finally {
                    isInText = false;
                }
            }
            World after = w;
            w = before;
            note();
            w = after;
            return commands.length;
        }

        int errorPosition() {
            if (malformed < 0) {
                throw new NoSuchElementException();
            }
            return malformed;
        }

        int failedCommand() {
            if (failed < 0) {
                throw new NoSuchElementException();
            }
            return failed;
        }

        int undo() {
            state(!past.isEmpty());
            w = past.removeLast();
            return past.size();
        }

        int save() {
            saved = w.copy();
            return w.words.size();
        }

        int restore() {
            state(saved != null);
            w = saved.copy();
            past.clear();
            return w.words.size();
        }
    }

    // ---- the runs ----------------------------------------------------------------------------

    private interface Call {
        Object run();
    }

    private static Object answer(Call call) {
        try {
            return call.run();
        } catch (RuntimeException e) {
            return e.getClass().getName();
        }
    }

    private final int run;
    private final EchoPantry x = new EchoPantry();
    private final Model m = new Model();
    private final StringBuilder told = new StringBuilder();
    private boolean isWrong;
    private int calls;
    private long seed;
    private int letters;

    private EchoPantryModelTest(int run) {
        this.run = run;
        seed = run * 7919L + 17;
        letters = 2 + pick(14);
    }

    private int pick(int bound) {
        seed = seed * 6364136223846793005L + 1442695040888963407L;
        return (int) ((seed >>> 33) % bound);
    }

    private void same(String call, Call real, Call model) {
        if (isWrong || calls >= CALLS) {
            return;
        }
        calls++;
        Object want = answer(model);
        Object got = answer(real);
        told.append(call).append(" -> ").append(got).append('\n');
        if (!want.equals(got)) {
            isWrong = true;
            wrong++;
            if (wrong <= 3) {
                System.out.println("run " + run + ":\n" + told + "due is " + want);
            }
        }
    }

    private char letter() {
        int kind = pick(40);
        if (kind == 0) {
            return (char) ('a' + pick(26));
        }
        return kind == 1 ? (char) pick(65536) : (char) ('a' + pick(letters));
    }

    private int shelf() {
        return pick(15) == 0 ? pick(7) - 1 : pick(Math.max(1, Math.min(4, m.w.shelves.size())));
    }

    private int within(int low, int high) {
        return pick(15) == 0 ? (pick(2) == 0 ? low - 1 : high + 1) : low + pick(high - low + 1);
    }

    private void build() {
        char letter = letter();
        int word = within(0, 99);
        if (pick(3) > 0) {
            same("addJar " + letter + word, () -> x.addJar(letter, word), () -> m.addJar(letter, word));
        } else {
            int capacity = within(1, 6);
            int lifetime = within(1, pick(2) == 0 ? 30 : 6);
            char policy = pick(12) == 0 ? letter() : "rol".charAt(pick(3));
            same("addShelf " + capacity + " " + lifetime + " " + policy,
                    () -> x.addShelf(capacity, lifetime, policy), () -> m.addShelf(capacity, lifetime, policy));
        }
    }

    private void change() {
        char letter = letter();
        int shelf = shelf();
        switch (pick(16)) {
            case 0 -> build();
            case 1 -> {
                if (pick(3) == 0) {
                    same("removeJar " + letter, () -> x.removeJar(letter), () -> m.removeJar(letter));
                }
            }
            case 2, 3 -> {
                int word = within(0, 99);
                same("say " + letter + word, () -> x.say(letter, word), () -> m.say(letter, word));
            }
            case 4 -> {
                boolean listens = pick(3) > 0;
                same("setListening " + shelf + listens, () -> x.setListening(shelf, listens),
                        () -> m.setListening(shelf, listens));
            }
            case 5, 6 -> {
                int minutes = within(1, pick(2) == 0 ? 50 : 5);
                same("warm " + shelf + letter + minutes, () -> x.warm(shelf, letter, minutes),
                        () -> m.warm(shelf, letter, minutes));
            }
            case 7 -> {
                int position = pick(9) - 1;
                same("cancelWarming " + position, () -> x.cancelWarming(position), () -> m.cancelWarming(position));
            }
            case 8, 9 -> {
                int minutes = within(1, pick(6) == 0 ? 60 : 3);
                same("pass " + minutes, () -> x.pass(minutes), () -> m.pass(minutes));
            }
            default -> same("hear " + shelf + letter, () -> x.hear(shelf, letter), () -> m.hear(shelf, letter));
        }
    }

    private void goBack() {
        switch (pick(6)) {
            case 0 -> same("save", x::save, m::save);
            case 1 -> same("restore", x::restore, m::restore);
            default -> {
                int times = pick(5) == 0 ? 9 : 1 + pick(2);
                for (int i = 0; i < times; i++) {
                    same("undo", x::undo, m::undo);
                }
            }
        }
    }

    private String number(int bound) {
        int number = pick(bound);
        return number < 10 && pick(3) == 0 ? "0" + number : "" + number;
    }

    private String command() {
        char letter = (char) ('a' + pick(Math.min(26, letters)));
        int shelf = pick(12) == 0 ? pick(10) : pick(Math.max(1, Math.min(4, m.w.shelves.size())));
        return switch (pick(11)) {
            case 0 -> "jar " + letter + " " + number(100);
            case 1, 2 -> "say " + letter + " " + number(100);
            case 3 -> "drop " + letter;
            case 4 -> "shelf " + pick(8) + " " + number(33) + " " + "rol".charAt(pick(3));
            case 5, 6 -> "hear " + shelf + " " + letter;
            case 7 -> "warm " + shelf + " " + letter + " " + number(53);
            case 8 -> "listen " + shelf;
            case 9 -> "deaf " + shelf;
            default -> "pass " + number(pick(2) == 0 ? 63 : 4);
        };
    }

    private String text() {
        StringBuilder text = new StringBuilder(command());
        for (int more = pick(8); more > 0; more--) {
            text.append(';').append(command());
        }
        if (text.length() > 60 && pick(8) > 0) {
            text.setLength(Math.max(6, text.lastIndexOf(";", 60)));
        }
        if (pick(3) == 0) {
            int at = pick(text.length());
            char character = " ;0a9rjsdhwlpe".charAt(pick(14));
            switch (pick(4)) {
                case 0 -> text.deleteCharAt(at);
                case 1 -> text.insert(at, character);
                case 2 -> text.setCharAt(at, character);
                default -> text.setLength(at);
            }
        }
        return text.toString();
    }

    private void command(String text) {
        for (int i = 0; i < text.length(); i++) {
            char character = text.charAt(i);
            same("type " + character, () -> x.type(character), () -> m.type(character));
            if (pick(150) == 0) {
                char odd = (char) (pick(2) == 0 ? pick(40) : 120 + pick(20));
                same("type " + (int) odd, () -> x.type(odd), () -> m.type(odd));
            }
        }
        same("execute", x::execute, m::execute);
        same("errorPosition", x::errorPosition, m::errorPosition);
        same("failedCommand", x::failedCommand, m::failedCommand);
    }

    private void askShelf() {
        int s = shelf();
        int p = pick(8) - 1;
        char c = pick(2) == 0 ? letter() : (char) ('a' + pick(letters));
        String at = s + " " + c;
        switch (pick(18)) {
            case 0 -> same("capacityOf " + s, () -> x.capacityOf(s), () -> m.shelf(s).capacity);
            case 1 -> same("lifetimeOf " + s, () -> x.lifetimeOf(s), () -> m.shelf(s).lifetime);
            case 2 -> same("policyOf " + s, () -> x.policyOf(s), () -> m.shelf(s).policy);
            case 3 -> same("isListening " + s, () -> x.isListening(s), () -> m.shelf(s).listens);
            case 4 -> same("echoCount " + s, () -> x.echoCount(s), () -> m.shelf(s).echoes.size());
            case 5 -> same("echoAt " + s + " " + p, () -> x.echoAt(s, p), () -> m.echoAt(s, p));
            case 6 -> same("hasEcho " + at, () -> x.hasEcho(s, c), () -> m.shelf(s).echoes.containsKey(c));
            case 7 -> same("echoOf " + at, () -> x.echoOf(s, c), () -> m.echo(s, c).word());
            case 8 -> same("ageOf " + at, () -> x.ageOf(s, c), () -> m.w.time - m.echo(s, c).minute());
            case 9 -> same("hitsOf " + at, () -> x.hitsOf(s, c), () -> m.echo(s, c).hits());
            case 10 -> same("isExpired " + at, () -> x.isExpired(s, c), () -> m.isExpired(s, c));
            case 11 -> same("isOpen " + at, () -> x.isOpen(s, c), () -> m.echo(s, c).open());
            case 12 -> same("isTrue " + at, () -> x.isTrue(s, c), () -> m.isTrue(s, c));
            case 13 -> same("isTrueBySteps " + at, () -> x.isTrueBySteps(s, c), () -> m.isTrue(s, c));
            case 14 -> same("victimOf " + s, () -> x.victimOf(s), () -> m.shelf(s).victim().jar());
            case 15 -> same("victimByScan " + s, () -> x.victimByScan(s), () -> m.shelf(s).victim().jar());
            case 16 -> same("outcomeOf " + at, () -> x.outcomeOf(s, c), () -> m.outcomeOf(s, c));
            default -> {
                same("writeShelf " + s, () -> x.writeShelf(s), () -> m.writeShelf(s));
                int i = pick(m.line.length() + 3) - 1;
                same("lineAt " + i, () -> x.lineAt(i), () -> m.lineAt(i));
            }
        }
    }

    private void ask() {
        int p = pick(9) - 1;
        char c = letter();
        switch (pick(24)) {
            case 0 -> same("jarCount", x::jarCount, () -> m.w.words.size());
            case 1 -> same("jarAt " + p, () -> x.jarAt(p), () -> m.jarAt(p));
            case 2 -> same("wordOf " + c, () -> x.wordOf(c), () -> m.wordOf(c));
            case 3 -> same("shelfCount", x::shelfCount, () -> m.w.shelves.size());
            case 4 -> same("time", x::time, () -> m.w.time);
            case 5 -> same("warmingCount", x::warmingCount, () -> m.w.warmings.size());
            case 6 -> same("warmingMinute " + p, () -> x.warmingMinute(p), () -> m.warming(p).minute());
            case 7 -> same("warmingJar " + p, () -> x.warmingJar(p), () -> m.warming(p).jar());
            case 8 -> same("hits", x::hits, () -> m.outcomes('h'));
            case 9 -> same("misses " + c, () -> x.misses(c), () -> m.misses(c));
            case 10 -> {
                char sort = "ceo".charAt(pick(3));
                same("misses " + sort, () -> x.misses(sort), () -> m.misses(sort));
            }
            case 11 -> same("hitShare", x::hitShare, m::hitShare);
            case 12 -> same("meanAge", x::meanAge, m::meanAge);
            case 13 -> same("shelfByHits " + p, () -> x.shelfByHits(p), () -> m.shelfByHits(p));
            case 14 -> same("isConsistent", x::isConsistent, () -> true);
            case 15 -> {
                int i = pick(40) - 2;
                same("lineAt " + i, () -> x.lineAt(i), () -> m.lineAt(i));
            }
            default -> askShelf();
        }
    }

    private void go() {
        int texts = run % 3 == 0 ? 6 : 1;
        int backs = run % 2 == 0 ? 4 : 12;
        for (int i = pick(8); i > 0; i--) {
            build();
        }
        for (int turn = 0; turn < CALLS && calls < CALLS && !isWrong; turn++) {
            int kind = pick(100);
            if (kind < texts) {
                command(text());
            } else if (kind < texts + backs) {
                goBack();
            } else if (kind < 55) {
                change();
            } else {
                ask();
            }
        }
    }

    public static void main(String[] args) {
        long calls = 0;
        for (int run = 0; run < RUNS; run++) {
            EchoPantryModelTest test = new EchoPantryModelTest(run);
            test.go();
            calls += test.calls;
        }
        System.out.println(RUNS + " runs, " + calls + " calls, " + wrong + " runs wrong");
        if (wrong > 0) {
            System.exit(1);
        }
    }
}
