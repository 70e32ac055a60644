/** Concerts that many tests begin with. */
final class Concerts {
    private Concerts() {
    }

    /** Candle 0 is s with 20 units at rate 6, candle 1 is b with 12 units at rate 2. */
    static CandleConcert two() {
        CandleConcert x = new CandleConcert();
        x.addCandle('s', 20, 6);
        x.addCandle('b', 12, 2);
        return x;
    }

    /** Ten candles of the voices s, a, t, b, s .. with 100, 101 .. 109 units, all at rate 5. */
    static CandleConcert ten() {
        CandleConcert x = new CandleConcert();
        for (int i = 0; i < 10; i++) {
            x.addCandle("satb".charAt(i % 4), 100 + i, 5);
        }
        return x;
    }

    /** The ten, and 20 events in the minutes 30, 31 .. 49: light 0, snuff 1, light 2 .. */
    static CandleConcert full() {
        CandleConcert x = ten();
        for (int i = 0; i < 20; i++) {
            x.schedule(30 + i, i % 10, i % 2 == 0);
        }
        return x;
    }

    /** Only candle 0, with so much wax and at this rate, which is lit. */
    static CandleConcert oneLit(int wax, int rate) {
        CandleConcert x = new CandleConcert();
        x.addCandle('s', wax, rate);
        x.light(0);
        return x;
    }

    /**
     * At time 4. Candle 0 has gone out, candle 1 is lit with 112 units, candle 2 has 990 units and is not lit; the
     * dish has 3 units, the draught is 2, one event is planned and one has failed, eight changes can be undone, a
     * state of three candles is saved, a line is written, a text begun, and both kinds of errors are recorded.
     */
    static CandleConcert lively() {
        CandleConcert x = new CandleConcert();
        x.addCandle('s', 20, 6);
        x.addCandle('b', 120, 2);
        x.addCandle('t', 990, 7);
        x.save();
        x.light(0);
        x.light(1);
        x.schedule(2, 1, true);
        x.schedule(50, 2, true);
        x.pass(4);
        x.setDraught(2);
        x.writeCandle(1);
        Check.answer(() -> Check.run(x, "wait;x"));
        Check.answer(() -> Check.run(x, "wait;light 9"));
        Check.type(x, "wait 1");
        return x;
    }
}
