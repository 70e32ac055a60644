import java.util.function.Supplier;

/** The answers of an object as texts, by which two objects can be compared. */
final class Answers {
    private Answers() {
    }

    /** All that can be asked without a change. */
    static String ofAll(CandleConcert x) {
        return ofState(x) + "\nerror " + Check.answer(x::errorPosition) + "\nfailed " + Check.answer(x::failedCommand)
            + "\nline " + ofLine(x);
    }

    /** All that is undone, saved and restored. */
    static String ofState(CandleConcert x) {
        StringBuilder text = new StringBuilder();
        int candles = x.candles();
        for (int candle = 0; candle < candles; candle++) {
            text.append(ofCandle(x, candle)).append('\n');
        }
        int events = x.events();
        for (int i = 0; i < events; i++) {
            text.append(x.eventMinute(i)).append(x.isLighting(i) ? 'l' : 's').append(x.eventCandle(i)).append(' ');
        }
        return text.append('\n').append(ofConcert(x)).toString();
    }

    private static String ofCandle(CandleConcert x, int candle) {
        return x.voice(candle) + "=" + x.wax(candle) + "/" + x.consumption(candle) + (x.isLit(candle) ? "*" : "")
            + " left " + x.minutesLeft(candle) + " " + x.minutesLeftByBurning(candle) + " " + x.candleByWax(candle);
    }

    private static String ofConcert(CandleConcert x) {
        return "time " + x.time() + " draught " + x.draught() + " dish " + x.dish() + " burnt " + x.burnt()
            + "\nlit " + x.litCandles() + " " + x.sounding('s') + x.sounding('a') + x.sounding('t') + x.sounding('b')
            + " loudest " + Check.answer(x::loudestVoice) + " last " + Check.answer(x::lastCandle)
            + "\nfailures " + x.failedEvents() + " " + Check.answer(x::failureReason)
            + "\ndark in " + x.minutesUntilDark() + " " + x.minutesUntilDarkByLeaps()
            + " added " + x.addedWax() + " " + x.addedWaxByParts()
            + " mean " + Check.answer(x::meanWax) + " share " + Check.answer(x::litShare) + " " + x.isConsistent();
    }

    /** The output line, whose length only the call that wrote it tells. */
    static String ofLine(CandleConcert x) {
        StringBuilder text = new StringBuilder();
        for (int i = 0; Check.answer(charAt(x, i)) instanceof Character character; i++) {
            text.append(character);
        }
        return text.toString();
    }

    private static Supplier<Object> charAt(CandleConcert x, int index) {
        return () -> x.charAt(index);
    }

    /** What only a change tells: how the buffer runs, how far undo goes and where to, and what restore brings back. */
    static String ofTheHidden(CandleConcert x) {
        StringBuilder text = new StringBuilder();
        text.append("typed ").append(Check.answer(() -> x.type('0'))).append(" run ").append(Check.answer(x::run));
        text.append(' ').append(Check.answer(x::errorPosition)).append(' ').append(Check.answer(x::failedCommand));
        text.append(' ').append(inShort(x)).append("\nundo");
        for (int i = 0; i < 10; i++) {
            text.append(' ').append(Check.answer(x::undo));
        }
        text.append(' ').append(inShort(x));
        text.append("\nrestore ").append(Check.answer(x::restore));
        return text.append(' ').append(inShort(x)).toString();
    }

    private static String inShort(CandleConcert x) {
        return "[" + x.candles() + " " + x.litCandles() + " " + x.events() + " " + x.failedEvents() + " " + x.time()
            + " " + x.draught() + " " + x.dish() + " " + x.burnt() + " " + x.addedWax() + " "
            + Check.answer(x::meanWax) + "]";
    }
}
