import java.util.Random;
import java.util.function.Supplier;

/** Many runs of 512 calls, the same ones each time, whose every answer is compared with the model's. */
public final class ModelTest {
    private static final int RUNS = 3000;
    private static final int CALLS = 512;

    private final Random random;
    private final CandleConcert x = new CandleConcert();
    private final Model m = new Model();
    private final String name;
    private int calls = 0;

    private ModelTest(int seed) {
        random = new Random(seed);
        name = "run " + seed + ", call ";
    }

    public static void main(String[] args) {
        for (int seed = 0; seed < RUNS; seed++) {
            new ModelTest(seed).run();
        }
        Check.end();
    }

    private void run() {
        while (calls < CALLS) {
            change();
            ask();
        }
    }

    private void same(String call, Supplier<Object> model, Supplier<Object> concert) {
        // What later calls answer is free.
        if (calls == CALLS) {
            return;
        }
        calls++;
        Check.due(name + calls + ": " + call, Check.answer(model), Check.answer(concert));
    }

    private int oneOf(int... numbers) {
        return numbers[random.nextInt(numbers.length)];
    }

    private boolean rarely() {
        return random.nextInt(25) == 0;
    }

    private int odd() {
        return oneOf(-1, 0, 4, 9, 10, 20, 240, 241, 999, 1000, Integer.MAX_VALUE, Integer.MIN_VALUE);
    }

    private int candle() {
        return rarely() ? odd() : random.nextInt(m.now.candles.size() + 1);
    }

    private int position() {
        return rarely() ? odd() : random.nextInt(m.now.events.size() + 1);
    }

    private int wax() {
        return rarely() ? odd() : oneOf(1 + random.nextInt(30), 1 + random.nextInt(999), 999);
    }

    private int minutes() {
        return rarely() ? odd() : oneOf(1, 1 + random.nextInt(4), 1 + random.nextInt(4), 1 + random.nextInt(240));
    }

    private int eventMinute() {
        return rarely() ? odd() : m.now.time + oneOf(1, 2, random.nextInt(9), 1 + random.nextInt(999), 999, 1000);
    }

    private char voice() {
        return rarely() ? (char) oneOf('x', 0, 'S', 65535) : "satb".charAt(random.nextInt(4));
    }

    private void change() {
        int candle = candle();
        switch (random.nextInt(20)) {
            case 0, 1 -> {
                char voice = voice();
                int wax = wax();
                int rate = rarely() ? odd() : 1 + random.nextInt(9);
                String call = "addCandle " + voice + " " + wax + " " + rate;
                same(call, () -> m.addCandle(voice, wax, rate), () -> x.addCandle(voice, wax, rate));
            }
            case 2, 3, 4 -> same("light " + candle, () -> m.light(candle), () -> x.light(candle));
            case 5 -> same("snuff " + candle, () -> m.snuff(candle), () -> x.snuff(candle));
            case 6, 7 -> {
                int units = rarely() ? odd() : 1 + random.nextInt(m.now.dish + 2);
                same("pour " + candle + " " + units, () -> m.pour(candle, units), () -> x.pour(candle, units));
            }
            case 8 -> {
                int draught = rarely() ? odd() : random.nextInt(4);
                same("setDraught " + draught, () -> m.setDraught(draught), () -> x.setDraught(draught));
            }
            case 9, 10, 11 -> {
                int minute = eventMinute();
                boolean lights = random.nextInt(3) != 0;
                same("schedule " + minute + " " + candle + " " + lights, () -> m.schedule(minute, candle, lights),
                        () -> x.schedule(minute, candle, lights));
            }
            case 12 -> {
                int position = position();
                same("unschedule " + position, () -> m.unschedule(position), () -> x.unschedule(position));
            }
            case 13, 14, 15 -> {
                int minutes = minutes();
                same("pass " + minutes, () -> m.pass(minutes), () -> x.pass(minutes));
            }
            case 16, 17 -> program();
            case 18 -> history();
            default -> ask();
        }
    }

    private void history() {
        int kind = random.nextInt(12);
        if (kind == 0) {
            same("restore", m::restore, x::restore);
        } else if (kind < 3) {
            same("save", m::save, x::save);
        } else {
            for (int i = random.nextInt(4); i >= 0; i--) {
                same("undo", m::undo, x::undo);
            }
        }
    }

    private void program() {
        StringBuilder text = new StringBuilder(command());
        while (random.nextInt(4) != 0 && text.length() < 60) {
            text.append(';').append(command());
        }
        if (random.nextInt(3) == 0) {
            int at = random.nextInt(text.length());
            switch (random.nextInt(4)) {
                case 0 -> text.setCharAt(at, "0 ;/+lswpd9x\u0130".charAt(random.nextInt(13)));
                case 1 -> text.deleteCharAt(at);
                case 2 -> text.insert(at, "0 ;/+lswpd9x\u0130".charAt(random.nextInt(13)));
                default -> text.setLength(at);
            }
        }
        for (int i = 0; i < text.length(); i++) {
            char character = text.charAt(i);
            same("type " + character, () -> m.type(character), () -> x.type(character));
        }
        same("run " + text, m::run, x::run);
        same("errorPosition", m::errorPosition, x::errorPosition);
        same("failedCommand", m::failedCommand, x::failedCommand);
    }

    private String command() {
        int candle = random.nextInt(Math.min(9, m.now.candles.size()) + 1);
        String small = random.nextInt(9) + "";
        return switch (random.nextInt(11)) {
            case 0 -> "candle " + "satb".charAt(random.nextInt(4)) + oneOf(1, 12, 200, 999, 0) + "/" + small;
            case 1, 2 -> "light " + candle;
            case 3 -> "snuff " + candle;
            case 4 -> "pour " + candle + "+" + (rarely() ? "010" : small);
            case 5 -> "draught " + random.nextInt(rarely() ? 10 : 4);
            case 6, 7 -> "plan " + Math.min(999, m.now.time + 1 + random.nextInt(9)) + " "
                    + "ls".charAt(random.nextInt(2)) + candle;
            case 8 -> "drop " + random.nextInt(m.now.events.size() + 1);
            case 9 -> "wait";
            default -> "wait " + (rarely() ? "241" : "0" + small);
        };
    }

    private void ask() {
        if (random.nextInt(90) == 0) {
            askAll();
            return;
        }
        int candle = candle();
        int position = position();
        switch (random.nextInt(10)) {
            case 0, 1 -> askCandle(candle);
            case 2, 3 -> askEvent(position);
            case 4 -> askConcert();
            case 5, 6 -> askPredictions();
            case 7, 8 -> askAccounts();
            default -> askLine(candle);
        }
    }

    private void askAll() {
        for (int candle = 0; candle <= m.now.candles.size(); candle++) {
            askCandle(candle);
            askLine(candle);
        }
        for (int position = 0; position <= m.now.events.size(); position++) {
            askEvent(position);
        }
        askConcert();
        askPredictions();
        askAccounts();
    }

    private void askCandle(int candle) {
        same("voice " + candle, () -> m.voice(candle), () -> x.voice(candle));
        same("wax " + candle, () -> m.wax(candle), () -> x.wax(candle));
        same("consumption " + candle, () -> m.consumption(candle), () -> x.consumption(candle));
        same("isLit " + candle, () -> m.isLit(candle), () -> x.isLit(candle));
        same("minutesLeft " + candle, () -> m.minutesLeft(candle), () -> x.minutesLeft(candle));
        same("minutesLeftByBurning " + candle, () -> m.minutesLeft(candle), () -> x.minutesLeftByBurning(candle));
        same("candleByWax " + candle, () -> m.candleByWax(candle), () -> x.candleByWax(candle));
    }

    private void askEvent(int position) {
        same("events", () -> m.now.events.size(), x::events);
        same("eventMinute " + position, () -> m.eventMinute(position), () -> x.eventMinute(position));
        same("eventCandle " + position, () -> m.eventCandle(position), () -> x.eventCandle(position));
        same("isLighting " + position, () -> m.isLighting(position), () -> x.isLighting(position));
        same("failedEvents", () -> m.now.failedEvents, x::failedEvents);
        same("failureReason", m::failureReason, x::failureReason);
    }

    private void askConcert() {
        char voice = voice();
        same("candles", () -> m.now.candles.size(), x::candles);
        same("litCandles", m::litCandles, x::litCandles);
        same("sounding " + voice, () -> m.sounding(voice), () -> x.sounding(voice));
        same("loudestVoice", m::loudestVoice, x::loudestVoice);
        same("time", () -> m.now.time, x::time);
        same("draught", () -> m.now.draught, x::draught);
        same("lastCandle", m::lastCandle, x::lastCandle);
    }

    private void askPredictions() {
        same("minutesUntilDark", m::minutesUntilDark, x::minutesUntilDark);
        same("minutesUntilDarkByLeaps", m::minutesUntilDark, x::minutesUntilDarkByLeaps);
        same("isConsistent", () -> true, x::isConsistent);
    }

    private void askAccounts() {
        same("dish", () -> m.now.dish, x::dish);
        same("burnt", () -> m.now.burnt, x::burnt);
        same("addedWax", () -> m.now.added, x::addedWax);
        same("addedWaxByParts", () -> m.now.added, x::addedWaxByParts);
        same("meanWax", m::meanWax, x::meanWax);
        same("litShare", m::litShare, x::litShare);
    }

    private void askLine(int candle) {
        if (random.nextBoolean()) {
            same("writeCandle " + candle, () -> m.writeCandle(candle), () -> x.writeCandle(candle));
        } else {
            same("writeEvents", m::writeEvents, x::writeEvents);
        }
        for (int i = -1; i <= m.line.length(); i++) {
            int index = i;
            same("charAt " + index, () -> m.charAt(index), () -> x.charAt(index));
        }
    }
}
