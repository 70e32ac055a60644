import java.util.NoSuchElementException;

/** A concert of candles. */
public final class CandleConcert {
    private static final int MAX_CANDLES = 10;
    private static final int MAX_WAX = 999;
    private static final int MAX_RATE = 9;
    private static final int MAX_DRAUGHT = 3;
    private static final int MAX_EVENTS = 20;
    private static final int MAX_MINUTES_AHEAD = 999;
    private static final int MAX_MINUTES_TO_PASS = 240;
    private static final int LEAST_DECREASE_THAT_DRIPS = 5;
    private static final int MAX_TEXT = 60;
    private static final int MAX_DIGITS = 3;
    private static final int MAX_UNDO = 8;

    // The shortest command is "wait" and takes 5 characters with its semicolon; the 1 is for what may stand begun.
    private static final int MAX_COMMANDS = MAX_TEXT / 5 + 1;

    // Far above what any concert needs: the latest event is 999 minutes away, and then a candle burns 999 minutes.
    private static final int LOOP_LIMIT = 1000000;

    private static final int NONE = -1;

    // In the order in which the document prefers them where several are equally loud.
    private static final char[] VOICES = {'s', 'a', 't', 'b'};

    private final State now = new State();
    private final State spare = new State();
    private final State saved = new State();
    private final History history = new History();
    private final Program program = new Program();
    private final StringBuilder line = new StringBuilder();
    private boolean hasSaved = false;
    private int errorPosition = NONE;
    private int failedCommand = NONE;

    public CandleConcert() {
    }

    // ---- candles

    public int addCandle(char voice, int wax, int rate) throws IllegalArgumentException, IllegalStateException {
        throwIfRefused(now.refusalToAdd(voice, wax, rate));
        history.remember(now);
        return now.addNewCandle(voice, wax, rate);
    }

    public int light(int candle)
            throws IndexOutOfBoundsException, IllegalStateException, UnsupportedOperationException {
        throwIfRefused(now.refusalToLight(candle));
        history.remember(now);
        return now.setLit(candle);
    }

    public int snuff(int candle) throws IndexOutOfBoundsException, IllegalStateException {
        throwIfRefused(now.refusalToSnuff(candle));
        history.remember(now);
        return now.setUnlit(candle);
    }

    public int pour(int candle, int units)
            throws IndexOutOfBoundsException, IllegalArgumentException, IllegalStateException,
            UnsupportedOperationException {
        throwIfRefused(now.refusalToPour(candle, units));
        history.remember(now);
        return now.pourFromDish(candle, units);
    }

    public int setDraught(int draught) throws IllegalArgumentException {
        throwIfRefused(now.refusalToChangeDraught(draught));
        history.remember(now);
        return now.changeDraught(draught);
    }

    // ---- events and time

    public int schedule(int minute, int candle, boolean isLighting)
            throws IllegalArgumentException, IndexOutOfBoundsException, IllegalStateException {
        throwIfRefused(now.refusalToSchedule(minute, candle));
        history.remember(now);
        return now.events.insert(minute, candle, isLighting);
    }

    public int unschedule(int position) throws IndexOutOfBoundsException {
        requireEvent(position);
        history.remember(now);
        now.events.remove(position);
        return now.events.count;
    }

    public int pass(int minutes) throws IllegalArgumentException {
        throwIfRefused(now.refusalToPass(minutes));
        history.remember(now);
        return now.passMinutes(minutes);
    }

    // ---- properties of candles

    public int candles() {
        return now.candles.count;
    }

    public char voice(int candle) throws IndexOutOfBoundsException {
        requireCandle(candle);
        return now.candles.voice[candle];
    }

    public int wax(int candle) throws IndexOutOfBoundsException {
        requireCandle(candle);
        return now.candles.wax[candle];
    }

    public int consumption(int candle) throws IndexOutOfBoundsException {
        requireCandle(candle);
        return now.consumptionOf(candle);
    }

    public boolean isLit(int candle) throws IndexOutOfBoundsException {
        requireCandle(candle);
        return now.candles.lit[candle];
    }

    public int litCandles() {
        return now.candles.countLit();
    }

    public int sounding(char voice) throws IllegalArgumentException {
        if (!isVoice(voice)) {
            throw new IllegalArgumentException("there is no such voice");
        }
        return now.candles.countLitOf(voice);
    }

    public int minutesLeft(int candle) throws IndexOutOfBoundsException {
        requireCandle(candle);
        return now.minutesLeftOf(candle);
    }

    public int minutesLeftByBurning(int candle) throws IndexOutOfBoundsException {
        requireCandle(candle);
        return now.minutesOfBurning(candle);
    }

    public int candleByWax(int rank) throws NoSuchElementException {
        if (!now.candles.has(rank)) {
            throw new NoSuchElementException("there is no such rank");
        }
        return now.candles.atRank(rank);
    }

    // ---- properties of events

    public int events() {
        return now.events.count;
    }

    public int eventMinute(int position) throws IndexOutOfBoundsException {
        requireEvent(position);
        return now.events.minute[position];
    }

    public int eventCandle(int position) throws IndexOutOfBoundsException {
        requireEvent(position);
        return now.events.candle[position];
    }

    public boolean isLighting(int position) throws IndexOutOfBoundsException {
        requireEvent(position);
        return now.events.lighting[position];
    }

    public int failedEvents() {
        return now.failedEvents;
    }

    public char failureReason() throws NoSuchElementException {
        if (now.failedEvents == 0) {
            throw new NoSuchElementException("no event has failed");
        }
        return now.failureReason;
    }

    // ---- the concert

    public int time() {
        return now.time;
    }

    public int draught() {
        return now.draught;
    }

    public int dish() {
        return now.dish;
    }

    public int minutesUntilDark() {
        spare.copyFrom(now);
        for (int minutes = 0; minutes < LOOP_LIMIT && !spare.isDark(); minutes++) {
            spare.passMinute();
        }
        return spare.time - now.time;
    }

    public int minutesUntilDarkByLeaps() {
        spare.copyFrom(now);
        for (int leaps = 0; leaps < LOOP_LIMIT && !spare.isDark(); leaps++) {
            spare.leap();
        }
        return spare.time - now.time;
    }

    public int lastCandle() throws NoSuchElementException {
        if (now.lastCandle == NONE) {
            throw new NoSuchElementException("no candle went out");
        }
        return now.lastCandle;
    }

    public char loudestVoice() throws NoSuchElementException {
        if (now.candles.countLit() == 0) {
            throw new NoSuchElementException("no candle is lit");
        }
        return now.candles.loudest();
    }

    // ---- accounts

    public long addedWax() {
        return now.addedWax;
    }

    public long addedWaxByParts() {
        return now.candles.sumOfWax() + now.dish + now.burnt;
    }

    public int burnt() {
        return now.burnt;
    }

    public double meanWax() throws ArithmeticException {
        if (now.candles.count == 0) {
            throw new ArithmeticException("there are no candles");
        }
        return (double) now.candles.sumOfWax() / (double) now.candles.count;
    }

    public float litShare() throws ArithmeticException {
        if (now.candles.count == 0) {
            throw new ArithmeticException("there are no candles");
        }
        return (float) now.candles.countLit() / (float) now.candles.count;
    }

    public boolean isConsistent() {
        for (int candle = 0; candle < now.candles.count; candle++) {
            boolean agrees = now.minutesLeftOf(candle) == now.minutesOfBurning(candle);
            boolean burnsNothing = now.candles.lit[candle] && now.candles.wax[candle] == 0;
            if (!agrees || burnsNothing) {
                return false;
            }
        }
        return minutesUntilDark() == minutesUntilDarkByLeaps() && addedWax() == addedWaxByParts();
    }

    // ---- output

    public int writeCandle(int candle) throws IndexOutOfBoundsException {
        requireCandle(candle);
        line.setLength(0);
        line.append(candle);
        line.append(now.candles.voice[candle]);
        line.append('=');
        line.append(now.candles.wax[candle]);
        line.append('/');
        line.append(now.consumptionOf(candle));
        if (now.candles.lit[candle]) {
            line.append('*');
        }
        return line.length();
    }

    public int writeEvents() {
        line.setLength(0);
        for (int position = 0; position < now.events.count; position++) {
            if (position > 0) {
                line.append(' ');
            }
            line.append(now.events.minute[position]);
            line.append(now.events.lighting[position] ? 'l' : 's');
            line.append(now.events.candle[position]);
        }
        return line.length();
    }

    public char charAt(int index) throws IndexOutOfBoundsException {
        if (index < 0 || index >= line.length()) {
            throw new IndexOutOfBoundsException("the output line has no such index");
        }
        return line.charAt(index);
    }

    // ---- programs

    public int type(char character) throws IllegalStateException {
        if (program.isFull()) {
            throw new IllegalStateException("the program buffer is full");
        }
        return program.append(character);
    }

    public int run() throws IllegalArgumentException, UnsupportedOperationException {
        boolean isProgram = program.parse();
        program.clear();
        if (!isProgram) {
            errorPosition = program.position;
            throw new IllegalArgumentException("the text is not a program");
        }
        spare.copyFrom(now);
        for (int i = 0; i < program.commandCount; i++) {
            if (!isAllowed(program.commands[i])) {
                now.copyFrom(spare);
                failedCommand = i;
                throw new UnsupportedOperationException("a command failed");
            }
            execute(program.commands[i]);
        }
        history.remember(spare);
        return program.commandCount;
    }

    public int errorPosition() throws NoSuchElementException {
        if (errorPosition == NONE) {
            throw new NoSuchElementException("there was no text that was not a program");
        }
        return errorPosition;
    }

    public int failedCommand() throws NoSuchElementException {
        if (failedCommand == NONE) {
            throw new NoSuchElementException("no command failed in a program");
        }
        return failedCommand;
    }

    // ---- undo and snapshots

    public int undo() throws IllegalStateException {
        if (history.count == 0) {
            throw new IllegalStateException("no change can be undone");
        }
        history.takeBack(now);
        return history.count;
    }

    public int save() {
        saved.copyFrom(now);
        hasSaved = true;
        return now.candles.count;
    }

    public int restore() throws IllegalStateException {
        if (!hasSaved) {
            throw new IllegalStateException("no state was saved");
        }
        now.copyFrom(saved);
        history.forget();
        return now.candles.count;
    }

    // ---- helpers

    private void requireCandle(int candle) {
        if (!now.candles.has(candle)) {
            throw new IndexOutOfBoundsException("there is no such candle");
        }
    }

    private void requireEvent(int position) {
        if (!now.events.has(position)) {
            throw new IndexOutOfBoundsException("there is no such event");
        }
    }

    private static boolean isVoice(char voice) {
        for (int i = 0; i < VOICES.length; i++) {
            if (VOICES[i] == voice) {
                return true;
            }
        }
        return false;
    }

    private static void throwIfRefused(Refusal refusal) {
        switch (refusal) {
            case NO_SUCH_VOICE:
                throw new IllegalArgumentException("there is no such voice");
            case OUT_OF_RANGE:
                throw new IllegalArgumentException("a number is out of range");
            case NO_SUCH_CANDLE:
                throw new IndexOutOfBoundsException("there is no such candle");
            case TOO_MANY_CANDLES:
                throw new IllegalStateException("there are 10 candles");
            case IS_LIT:
                throw new IllegalStateException("the candle is lit");
            case IS_NOT_LIT:
                throw new IllegalStateException("the candle is not lit");
            case TOO_MUCH_WAX:
                throw new IllegalStateException("the wax would be more than 999 units");
            case TOO_MANY_EVENTS:
                throw new IllegalStateException("20 events are scheduled");
            case NO_WAX:
                throw new UnsupportedOperationException("the candle has no wax");
            case DISH_TOO_EMPTY:
                throw new UnsupportedOperationException("the dish contains less");
            default:
                break;
        }
    }

    private boolean isAllowed(Command command) {
        switch (command.kind) {
            case CANDLE:
                return now.refusalToAdd(command.voice, command.number, command.rate) == Refusal.NOTHING;
            case LIGHT:
                return now.refusalToLight(command.candle) == Refusal.NOTHING;
            case SNUFF:
                return now.refusalToSnuff(command.candle) == Refusal.NOTHING;
            case POUR:
                return now.refusalToPour(command.candle, command.number) == Refusal.NOTHING;
            case DRAUGHT:
                return now.refusalToChangeDraught(command.number) == Refusal.NOTHING;
            case PLAN:
                return now.refusalToSchedule(command.number, command.candle) == Refusal.NOTHING;
            case DROP:
                return now.events.has(command.number);
            default:
                return now.refusalToPass(command.number) == Refusal.NOTHING;
        }
    }

    private void execute(Command command) {
        switch (command.kind) {
            case CANDLE:
                now.addNewCandle(command.voice, command.number, command.rate);
                break;
            case LIGHT:
                now.setLit(command.candle);
                break;
            case SNUFF:
                now.setUnlit(command.candle);
                break;
            case POUR:
                now.pourFromDish(command.candle, command.number);
                break;
            case DRAUGHT:
                now.changeDraught(command.number);
                break;
            case PLAN:
                now.events.insert(command.number, command.candle, command.lighting);
                break;
            case DROP:
                now.events.remove(command.number);
                break;
            default:
                now.passMinutes(command.number);
                break;
        }
    }

    /** Why a change is not allowed. Programs ask for it too, so it is an answer and not yet an exception. */
    private enum Refusal {
        NOTHING, NO_SUCH_VOICE, OUT_OF_RANGE, NO_SUCH_CANDLE, TOO_MANY_CANDLES, IS_LIT, IS_NOT_LIT, TOO_MUCH_WAX,
        TOO_MANY_EVENTS, NO_WAX, DISH_TOO_EMPTY
    }

    /** The candles, a column for each property, so that a copy needs no new object. */
    private static final class Candles {
        final char[] voice = new char[MAX_CANDLES];
        final int[] wax = new int[MAX_CANDLES];
        final int[] rate = new int[MAX_CANDLES];
        final boolean[] lit = new boolean[MAX_CANDLES];
        int count = 0;

        void copyFrom(Candles other) {
            count = other.count;
            for (int i = 0; i < MAX_CANDLES; i++) {
                voice[i] = other.voice[i];
                wax[i] = other.wax[i];
                rate[i] = other.rate[i];
                lit[i] = other.lit[i];
            }
        }

        boolean has(int candle) {
            return candle >= 0 && candle < count;
        }

        int countLit() {
            int number = 0;
            for (int i = 0; i < count; i++) {
                if (lit[i]) {
                    number++;
                }
            }
            return number;
        }

        int countLitOf(char wanted) {
            int number = 0;
            for (int i = 0; i < count; i++) {
                if (lit[i] && voice[i] == wanted) {
                    number++;
                }
            }
            return number;
        }

        char loudest() {
            char loudest = VOICES[0];
            for (int i = 1; i < VOICES.length; i++) {
                if (countLitOf(VOICES[i]) > countLitOf(loudest)) {
                    loudest = VOICES[i];
                }
            }
            return loudest;
        }

        int sumOfWax() {
            int sum = 0;
            for (int i = 0; i < count; i++) {
                sum += wax[i];
            }
            return sum;
        }

        int atRank(int rank) {
            for (int i = 0; i < count; i++) {
                if (rankOf(i) == rank) {
                    return i;
                }
            }
            return NONE;
        }

        private int rankOf(int candle) {
            int rank = 0;
            for (int i = 0; i < count; i++) {
                if (wax[i] > wax[candle] || wax[i] == wax[candle] && i < candle) {
                    rank++;
                }
            }
            return rank;
        }
    }

    /** The scheduled events in their order, a column for each property. */
    private static final class Events {
        final int[] minute = new int[MAX_EVENTS];
        final int[] candle = new int[MAX_EVENTS];
        final boolean[] lighting = new boolean[MAX_EVENTS];
        int count = 0;

        void copyFrom(Events other) {
            count = other.count;
            for (int i = 0; i < MAX_EVENTS; i++) {
                minute[i] = other.minute[i];
                candle[i] = other.candle[i];
                lighting[i] = other.lighting[i];
            }
        }

        boolean has(int position) {
            return position >= 0 && position < count;
        }

        boolean isFull() {
            return count >= MAX_EVENTS;
        }

        /** Answers the position of the new event, or NONE if there is no room for it. */
        int insert(int newMinute, int newCandle, boolean isLightingIt) {
            if (isFull()) {
                return NONE;
            }
            int position = count;
            while (position > 0 && minute[position - 1] > newMinute) {
                move(position - 1, position);
                position--;
            }
            minute[position] = newMinute;
            candle[position] = newCandle;
            lighting[position] = isLightingIt;
            count++;
            return position;
        }

        void remove(int position) {
            if (!has(position)) {
                return;
            }
            count--;
            for (int i = position; i < count; i++) {
                move(i + 1, i);
            }
        }

        private void move(int from, int to) {
            minute[to] = minute[from];
            candle[to] = candle[from];
            lighting[to] = lighting[from];
        }
    }

    /** All that is undone, saved and restored. */
    private static final class State {
        final Candles candles = new Candles();
        final Events events = new Events();
        int draught = 0;
        int dish = 0;
        int time = 0;
        int burnt = 0;
        long addedWax = 0;
        int failedEvents = 0;
        char failureReason = ' ';
        int lastCandle = NONE;

        void copyFrom(State other) {
            candles.copyFrom(other.candles);
            events.copyFrom(other.events);
            draught = other.draught;
            dish = other.dish;
            time = other.time;
            burnt = other.burnt;
            addedWax = other.addedWax;
            failedEvents = other.failedEvents;
            failureReason = other.failureReason;
            lastCandle = other.lastCandle;
        }

        Refusal refusalToAdd(char voice, int wax, int rate) {
            if (!isVoice(voice)) {
                return Refusal.NO_SUCH_VOICE;
            }
            if (wax < 1 || wax > MAX_WAX || rate < 1 || rate > MAX_RATE) {
                return Refusal.OUT_OF_RANGE;
            }
            return candles.count >= MAX_CANDLES ? Refusal.TOO_MANY_CANDLES : Refusal.NOTHING;
        }

        int addNewCandle(char voice, int wax, int rate) {
            int candle = candles.count;
            if (candle >= MAX_CANDLES) {
                return NONE;
            }
            candles.voice[candle] = voice;
            candles.wax[candle] = wax;
            candles.rate[candle] = rate;
            candles.lit[candle] = false;
            candles.count++;
            addedWax += wax;
            return candle;
        }

        Refusal refusalToLight(int candle) {
            if (!candles.has(candle)) {
                return Refusal.NO_SUCH_CANDLE;
            }
            if (candles.lit[candle]) {
                return Refusal.IS_LIT;
            }
            return candles.wax[candle] == 0 ? Refusal.NO_WAX : Refusal.NOTHING;
        }

        int setLit(int candle) {
            if (candles.has(candle)) {
                candles.lit[candle] = true;
            }
            return candles.countLit();
        }

        Refusal refusalToSnuff(int candle) {
            if (!candles.has(candle)) {
                return Refusal.NO_SUCH_CANDLE;
            }
            return candles.lit[candle] ? Refusal.NOTHING : Refusal.IS_NOT_LIT;
        }

        int setUnlit(int candle) {
            if (!candles.has(candle)) {
                return NONE;
            }
            candles.lit[candle] = false;
            return candles.wax[candle];
        }

        Refusal refusalToPour(int candle, int units) {
            if (!candles.has(candle)) {
                return Refusal.NO_SUCH_CANDLE;
            }
            if (units < 1 || units > MAX_WAX) {
                return Refusal.OUT_OF_RANGE;
            }
            if (candles.lit[candle]) {
                return Refusal.IS_LIT;
            }
            if (candles.wax[candle] + units > MAX_WAX) {
                return Refusal.TOO_MUCH_WAX;
            }
            return dish < units ? Refusal.DISH_TOO_EMPTY : Refusal.NOTHING;
        }

        int pourFromDish(int candle, int units) {
            if (!candles.has(candle)) {
                return NONE;
            }
            dish -= units;
            candles.wax[candle] += units;
            return candles.wax[candle];
        }

        Refusal refusalToChangeDraught(int newDraught) {
            return newDraught < 0 || newDraught > MAX_DRAUGHT ? Refusal.OUT_OF_RANGE : Refusal.NOTHING;
        }

        int changeDraught(int newDraught) {
            int previous = draught;
            draught = newDraught;
            return previous;
        }

        Refusal refusalToSchedule(int minute, int candle) {
            if (minute <= time || minute - time > MAX_MINUTES_AHEAD) {
                return Refusal.OUT_OF_RANGE;
            }
            if (!candles.has(candle)) {
                return Refusal.NO_SUCH_CANDLE;
            }
            return events.isFull() ? Refusal.TOO_MANY_EVENTS : Refusal.NOTHING;
        }

        Refusal refusalToPass(int minutes) {
            return minutes < 1 || minutes > MAX_MINUTES_TO_PASS ? Refusal.OUT_OF_RANGE : Refusal.NOTHING;
        }

        int passMinutes(int minutes) {
            int decrease = 0;
            for (int i = 0; i < minutes; i++) {
                decrease += passMinute();
            }
            return decrease;
        }

        int passMinute() {
            time++;
            carryOutDueEvents();
            int decrease = 0;
            for (int candle = 0; candle < candles.count; candle++) {
                if (candles.lit[candle]) {
                    decrease += burn(candle);
                }
            }
            return decrease;
        }

        private void carryOutDueEvents() {
            for (int i = 0; i < MAX_EVENTS && events.count > 0 && events.minute[0] == time; i++) {
                carryOut(events.candle[0], events.lighting[0]);
                events.remove(0);
            }
        }

        private void carryOut(int candle, boolean isToLight) {
            if (!candles.has(candle)) {
                return;
            }
            if (isToLight && candles.lit[candle]) {
                recordFailure('l');
            } else if (isToLight && candles.wax[candle] == 0) {
                recordFailure('w');
            } else if (!isToLight && !candles.lit[candle]) {
                recordFailure('n');
            } else {
                candles.lit[candle] = isToLight;
            }
        }

        private void recordFailure(char reason) {
            failedEvents++;
            failureReason = reason;
        }

        private int burn(int candle) {
            int decrease = Math.min(candles.wax[candle], consumptionOf(candle));
            int drip = decrease >= LEAST_DECREASE_THAT_DRIPS ? 1 : 0;
            candles.wax[candle] -= decrease;
            dish += drip;
            burnt += decrease - drip;
            if (candles.wax[candle] == 0) {
                candles.lit[candle] = false;
                lastCandle = candle;
            }
            return decrease;
        }

        int consumptionOf(int candle) {
            return candles.rate[candle] + draught;
        }

        int minutesLeftOf(int candle) {
            int consumption = consumptionOf(candle);
            if (consumption < 1) {
                return 0;
            }
            return (candles.wax[candle] + consumption - 1) / consumption;
        }

        int minutesOfBurning(int candle) {
            int left = candles.wax[candle];
            int minutes = 0;
            while (left > 0 && minutes < LOOP_LIMIT) {
                left -= Math.min(left, consumptionOf(candle));
                minutes++;
            }
            return minutes;
        }

        boolean isDark() {
            return candles.countLit() == 0 && events.count == 0;
        }

        /** Only for predictions: what burns before the last minute of the leap is not entered in the accounts. */
        void leap() {
            int quietMinutes = minutesToNextHappening() - 1;
            time += quietMinutes;
            for (int candle = 0; candle < candles.count; candle++) {
                if (candles.lit[candle]) {
                    candles.wax[candle] -= quietMinutes * consumptionOf(candle);
                }
            }
            passMinute();
        }

        private int minutesToNextHappening() {
            int minutes = events.count > 0 ? events.minute[0] - time : LOOP_LIMIT;
            for (int candle = 0; candle < candles.count; candle++) {
                if (candles.lit[candle]) {
                    minutes = Math.min(minutes, minutesLeftOf(candle));
                }
            }
            return minutes;
        }
    }

    /** The states before the latest changes, in a ring that overwrites the oldest. */
    private static final class History {
        final State[] ring = new State[MAX_UNDO];
        int next = 0;
        int count = 0;

        History() {
            for (int i = 0; i < MAX_UNDO; i++) {
                ring[i] = new State();
            }
        }

        void remember(State state) {
            ring[next].copyFrom(state);
            next = (next + 1) % MAX_UNDO;
            count = Math.min(count + 1, MAX_UNDO);
        }

        void takeBack(State state) {
            if (count == 0) {
                return;
            }
            next = (next + MAX_UNDO - 1) % MAX_UNDO;
            count--;
            state.copyFrom(ring[next]);
        }

        void forget() {
            count = 0;
        }
    }

    private enum Kind {
        CANDLE, LIGHT, SNUFF, POUR, DRAUGHT, PLAN, DROP, WAIT
    }

    /** A command that was read; which of the fields count depends on its kind. */
    private static final class Command {
        Kind kind = Kind.WAIT;
        int candle = 0;
        int number = 0;
        int rate = 0;
        char voice = ' ';
        boolean lighting = false;
    }

    /** The program buffer and its parser. A reading that fails leaves the position where no program can continue. */
    private static final class Program {
        final char[] text = new char[MAX_TEXT];
        final Command[] commands = new Command[MAX_COMMANDS];
        int length = 0;
        int commandCount = 0;
        int position = 0;

        Program() {
            for (int i = 0; i < MAX_COMMANDS; i++) {
                commands[i] = new Command();
            }
        }

        boolean isFull() {
            return length >= MAX_TEXT;
        }

        int append(char character) {
            if (!isFull()) {
                text[length] = character;
                length++;
            }
            return length;
        }

        void clear() {
            length = 0;
        }

        boolean parse() {
            position = 0;
            for (int i = 0; i < MAX_COMMANDS; i++) {
                if (!readCommand(commands[i])) {
                    return false;
                }
                commandCount = i + 1;
                if (!accept(';')) {
                    return position == length;
                }
            }
            return false;
        }

        private boolean readCommand(Command command) {
            if (accept('c')) {
                return acceptAll("andle ") && readNewCandle(command);
            }
            if (accept('l')) {
                command.kind = Kind.LIGHT;
                return acceptAll("ight ") && readCandle(command);
            }
            if (accept('s')) {
                command.kind = Kind.SNUFF;
                return acceptAll("nuff ") && readCandle(command);
            }
            if (accept('p')) {
                return readPourOrPlan(command);
            }
            if (accept('d')) {
                return readDraughtOrDrop(command);
            }
            return accept('w') && acceptAll("ait") && readDuration(command);
        }

        private boolean readNewCandle(Command command) {
            command.kind = Kind.CANDLE;
            if (!readVoice(command) || !readNumber(command, MAX_DIGITS) || !accept('/')) {
                return false;
            }
            command.rate = readDigits(1);
            return command.rate != NONE;
        }

        private boolean readPourOrPlan(Command command) {
            if (accept('o')) {
                command.kind = Kind.POUR;
                return acceptAll("ur ") && readCandle(command) && accept('+') && readNumber(command, MAX_DIGITS);
            }
            command.kind = Kind.PLAN;
            return acceptAll("lan ") && readNumber(command, MAX_DIGITS) && accept(' ') && readLighting(command)
                    && readCandle(command);
        }

        private boolean readDraughtOrDrop(Command command) {
            if (!accept('r')) {
                return false;
            }
            if (accept('a')) {
                command.kind = Kind.DRAUGHT;
                return acceptAll("ught ") && readNumber(command, 1);
            }
            command.kind = Kind.DROP;
            return acceptAll("op ") && readNumber(command, MAX_DIGITS);
        }

        private boolean readDuration(Command command) {
            command.kind = Kind.WAIT;
            command.number = 1;
            return !accept(' ') || readNumber(command, MAX_DIGITS);
        }

        private boolean readVoice(Command command) {
            for (int i = 0; i < VOICES.length; i++) {
                if (accept(VOICES[i])) {
                    command.voice = VOICES[i];
                    return true;
                }
            }
            return false;
        }

        private boolean readLighting(Command command) {
            command.lighting = accept('l');
            return command.lighting || accept('s');
        }

        private boolean readCandle(Command command) {
            command.candle = readDigits(1);
            return command.candle != NONE;
        }

        private boolean readNumber(Command command, int mostDigits) {
            command.number = readDigits(mostDigits);
            return command.number != NONE;
        }

        /** Answers the value of one digit up to so many, or NONE if not one stands here. */
        private int readDigits(int most) {
            int value = NONE;
            for (int i = 0; i < most && position < length; i++) {
                int digit = text[position] - '0';
                if (digit < 0 || digit > 9) {
                    break;
                }
                value = i == 0 ? digit : 10 * value + digit;
                position++;
            }
            return value;
        }

        private boolean acceptAll(String word) {
            for (int i = 0; i < word.length(); i++) {
                if (!accept(word.charAt(i))) {
                    return false;
                }
            }
            return true;
        }

        private boolean accept(char character) {
            if (position >= length || text[position] != character) {
                return false;
            }
            position++;
            return true;
        }
    }
}
