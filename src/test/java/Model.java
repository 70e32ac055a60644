import java.util.ArrayDeque;
import java.util.ArrayList;
import java.util.Comparator;
import java.util.Deque;
import java.util.List;
import java.util.NoSuchElementException;
import java.util.regex.Matcher;
import java.util.regex.Pattern;

/** The document a second time, written the plain way with the Java library, to be compared with the class. */
final class Model {
    static final class Candle {
        char voice;
        int wax;
        int rate;
        boolean lit;
    }

    record Event(int minute, int candle, boolean lighting) {
    }

    static final class State {
        List<Candle> candles = new ArrayList<>();
        List<Event> events = new ArrayList<>();
        int draught;
        int dish;
        int time;
        int burnt;
        long added;
        int failedEvents;
        char reason;
        int last = -1;

        State copy() {
            State copy = new State();
            for (Candle candle : candles) {
                Candle other = new Candle();
                other.voice = candle.voice;
                other.wax = candle.wax;
                other.rate = candle.rate;
                other.lit = candle.lit;
                copy.candles.add(other);
            }
            copy.events.addAll(events);
            copy.draught = draught;
            copy.dish = dish;
            copy.time = time;
            copy.burnt = burnt;
            copy.added = added;
            copy.failedEvents = failedEvents;
            copy.reason = reason;
            copy.last = last;
            return copy;
        }

        boolean dark() {
            return events.isEmpty() && candles.stream().noneMatch(c -> c.lit);
        }

        int minute() {
            time++;
            for (Event event : new ArrayList<>(events)) {
                if (event.minute == time) {
                    events.remove(event);
                    carryOut(event);
                }
            }
            int sum = 0;
            for (int i = 0; i < candles.size(); i++) {
                sum += candles.get(i).lit ? burn(i) : 0;
            }
            return sum;
        }

        private void carryOut(Event event) {
            Candle candle = candles.get(event.candle);
            char why = !event.lighting ? (candle.lit ? '-' : 'n') : candle.lit ? 'l' : candle.wax == 0 ? 'w' : '-';
            if (why == '-') {
                candle.lit = event.lighting;
            } else {
                failedEvents++;
                reason = why;
            }
        }

        /** Unit by unit; the fifth one is the one that drips. */
        private int burn(int number) {
            Candle candle = candles.get(number);
            int taken = 0;
            for (int unit = 1; unit <= candle.rate + draught && candle.wax > 0; unit++) {
                candle.wax--;
                taken++;
                if (unit == 5) {
                    dish++;
                } else {
                    burnt++;
                }
            }
            if (candle.wax == 0) {
                candle.lit = false;
                last = number;
            }
            return taken;
        }
    }

    private static final String DIGITS = "[0-9]{1,3}";
    private static final String COMMAND = "(candle [satb]" + DIGITS + "/[0-9]|light [0-9]|snuff [0-9]|pour [0-9]\\+"
            + DIGITS + "|draught [0-9]|plan " + DIGITS + " [ls][0-9]|drop " + DIGITS + "|wait( " + DIGITS + ")?)";
    private static final Pattern PROGRAM = Pattern.compile(COMMAND + "(;" + COMMAND + ")*");

    State now = new State();
    State saved;
    Deque<State> undo = new ArrayDeque<>();
    StringBuilder text = new StringBuilder();
    String line = "";
    int error = -1;
    int failed = -1;

    private void change() {
        undo.addLast(now.copy());
        if (undo.size() > 8) {
            undo.removeFirst();
        }
    }

    private static void index(boolean holds) {
        if (!holds) {
            throw new IndexOutOfBoundsException();
        }
    }

    private static void argument(boolean holds) {
        if (!holds) {
            throw new IllegalArgumentException();
        }
    }

    private static void state(boolean holds) {
        if (!holds) {
            throw new IllegalStateException();
        }
    }

    private static void supported(boolean holds) {
        if (!holds) {
            throw new UnsupportedOperationException();
        }
    }

    private static void element(boolean holds) {
        if (!holds) {
            throw new NoSuchElementException();
        }
    }

    private Candle at(int candle) {
        index(candle >= 0 && candle < now.candles.size());
        return now.candles.get(candle);
    }

    private Event event(int position) {
        index(position >= 0 && position < now.events.size());
        return now.events.get(position);
    }

    int addCandle(char voice, int wax, int rate) {
        argument("satb".indexOf(voice) >= 0 && wax >= 1 && wax <= 999 && rate >= 1 && rate <= 9);
        state(now.candles.size() < 10);
        change();
        Candle candle = new Candle();
        candle.voice = voice;
        candle.wax = wax;
        candle.rate = rate;
        now.candles.add(candle);
        now.added += wax;
        return now.candles.size() - 1;
    }

    int light(int candle) {
        state(!at(candle).lit);
        supported(at(candle).wax > 0);
        change();
        at(candle).lit = true;
        return litCandles();
    }

    int snuff(int candle) {
        state(at(candle).lit);
        change();
        at(candle).lit = false;
        return at(candle).wax;
    }

    int pour(int candle, int units) {
        Candle it = at(candle);
        argument(units >= 1 && units <= 999);
        state(!it.lit && it.wax + units <= 999);
        supported(now.dish >= units);
        change();
        now.dish -= units;
        it.wax += units;
        return it.wax;
    }

    int setDraught(int draught) {
        argument(draught >= 0 && draught <= 3);
        change();
        int before = now.draught;
        now.draught = draught;
        return before;
    }

    int schedule(int minute, int candle, boolean lighting) {
        argument((long) minute >= now.time + 1L && (long) minute <= now.time + 999L);
        at(candle);
        state(now.events.size() < 20);
        change();
        Event event = new Event(minute, candle, lighting);
        now.events.add(event);
        now.events.sort(Comparator.comparingInt(Event::minute));
        return now.events.lastIndexOf(event);
    }

    int unschedule(int position) {
        event(position);
        change();
        now.events.remove(position);
        return now.events.size();
    }

    int pass(int minutes) {
        argument(minutes >= 1 && minutes <= 240);
        change();
        int sum = 0;
        for (int i = 0; i < minutes; i++) {
            sum += now.minute();
        }
        return sum;
    }

    char voice(int candle) {
        return at(candle).voice;
    }

    int wax(int candle) {
        return at(candle).wax;
    }

    int consumption(int candle) {
        return at(candle).rate + now.draught;
    }

    boolean isLit(int candle) {
        return at(candle).lit;
    }

    int litCandles() {
        return (int) now.candles.stream().filter(c -> c.lit).count();
    }

    int sounding(char voice) {
        argument("satb".indexOf(voice) >= 0);
        return (int) now.candles.stream().filter(c -> c.lit && c.voice == voice).count();
    }

    int minutesLeft(int candle) {
        int minutes = 0;
        for (int wax = at(candle).wax; wax > 0; wax -= consumption(candle)) {
            minutes++;
        }
        return minutes;
    }

    int candleByWax(int rank) {
        element(rank >= 0 && rank < now.candles.size());
        List<Candle> sorted = new ArrayList<>(now.candles);
        sorted.sort(Comparator.comparingInt(c -> -c.wax));
        return now.candles.indexOf(sorted.get(rank));
    }

    int eventMinute(int position) {
        return event(position).minute;
    }

    int eventCandle(int position) {
        return event(position).candle;
    }

    boolean isLighting(int position) {
        return event(position).lighting;
    }

    char failureReason() {
        element(now.failedEvents > 0);
        return now.reason;
    }

    int minutesUntilDark() {
        State copy = now.copy();
        int minutes = 0;
        while (!copy.dark()) {
            copy.minute();
            minutes++;
        }
        return minutes;
    }

    int lastCandle() {
        element(now.last >= 0);
        return now.last;
    }

    char loudestVoice() {
        element(litCandles() > 0);
        char best = 'b';
        for (char voice : "tas".toCharArray()) {
            best = sounding(voice) >= sounding(best) ? voice : best;
        }
        return best;
    }

    int waxOfAll() {
        return now.candles.stream().mapToInt(c -> c.wax).sum();
    }

    double meanWax() {
        if (now.candles.isEmpty()) {
            throw new ArithmeticException();
        }
        return (double) waxOfAll() / (double) now.candles.size();
    }

    float litShare() {
        if (now.candles.isEmpty()) {
            throw new ArithmeticException();
        }
        return (float) litCandles() / (float) now.candles.size();
    }

    int writeCandle(int candle) {
        Candle it = at(candle);
        line = candle + "" + it.voice + "=" + it.wax + "/" + consumption(candle) + (it.lit ? "*" : "");
        return line.length();
    }

    int writeEvents() {
        List<String> words = new ArrayList<>();
        for (Event event : now.events) {
            words.add(event.minute + (event.lighting ? "l" : "s") + event.candle);
        }
        line = String.join(" ", words);
        return line.length();
    }

    char charAt(int index) {
        index(index >= 0 && index < line.length());
        return line.charAt(index);
    }

    int type(char character) {
        state(text.length() < 60);
        text.append(character);
        return text.length();
    }

    int run() {
        String program = text.toString();
        text.setLength(0);
        if (!PROGRAM.matcher(program).matches()) {
            error = errorOf(program);
            throw new IllegalArgumentException();
        }
        State before = now.copy();
        Deque<State> undoBefore = new ArrayDeque<>(undo);
        String[] commands = program.split(";");
        for (int i = 0; i < commands.length; i++) {
            try {
                execute(commands[i]);
            } catch (RuntimeException e) {
                now = before;
                undo = undoBefore;
                failed = i;
                throw new UnsupportedOperationException();
            }
        }
        undo = undoBefore;
        State after = now;
        now = before;
        change();
        now = after;
        return commands.length;
    }

    /** The length of the longest prefix that a program can continue. */
    private static int errorOf(String program) {
        int longest = 0;
        for (int end = 1; end <= program.length(); end++) {
            Matcher matcher = PROGRAM.matcher(program.substring(0, end));
            if (matcher.matches() || matcher.hitEnd()) {
                longest = end;
            }
        }
        return longest;
    }

    private void execute(String command) {
        String[] words = command.split("[ /+]");
        switch (words[0]) {
            case "candle" -> addCandle(words[1].charAt(0), Integer.parseInt(words[1].substring(1)),
                    Integer.parseInt(words[2]));
            case "light" -> light(Integer.parseInt(words[1]));
            case "snuff" -> snuff(Integer.parseInt(words[1]));
            case "pour" -> pour(Integer.parseInt(words[1]), Integer.parseInt(words[2]));
            case "draught" -> setDraught(Integer.parseInt(words[1]));
            case "plan" -> schedule(Integer.parseInt(words[1]), words[2].charAt(1) - '0', words[2].charAt(0) == 'l');
            case "drop" -> unschedule(Integer.parseInt(words[1]));
            default -> pass(words.length == 1 ? 1 : Integer.parseInt(words[1]));
        }
    }

    int errorPosition() {
        element(error >= 0);
        return error;
    }

    int failedCommand() {
        element(failed >= 0);
        return failed;
    }

    int undo() {
        state(!undo.isEmpty());
        now = undo.removeLast();
        return undo.size();
    }

    int save() {
        saved = now.copy();
        return now.candles.size();
    }

    int restore() {
        state(saved != null);
        now = saved.copy();
        undo.clear();
        return now.candles.size();
    }
}
