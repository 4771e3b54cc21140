/** "An object is used for at most 512 calls after it has been made": the 512th is bound too. */
public final class WhatItIsTest {
    private static final int CALLS = 512;

    /** A round of calls that ends where it began, with every method and each answer of a read. */
    private static final Step[] ROUND = {
        new Step("begin(0, 8, 3, 1)", 1, x -> x.begin(0, 8, 3, 1) ? 1 : 0),
        new Step("get(0, 0, 0)", 0, x -> x.get(0, 0, 0)),
        new Step("set(0, 0, 0, 5)", 1, x -> x.set(0, 0, 0, 5) ? 1 : 0),
        new Step("set(1, 0, 0, 6)", 1, x -> x.set(1, 0, 0, 6) ? 1 : 0),
        new Step("set(2, 0, 0, 256)", 0, x -> x.set(2, 0, 0, 256) ? 1 : 0),
        new Step("write(false, 0)", 69, x -> x.write(false, 0)),
        new Step("length()", 69, x -> x.length()),
        new Step("byteAt(68)", 130, x -> x.byteAt(68)),
        new Step("byteAt(69)", SevenPassImage.NONE, x -> x.byteAt(69)),
        new Step("begin(6, 8, 8, 8)", 1, x -> x.begin(6, 8, 8, 8) ? 1 : 0),
        new Step("begin(6, 4, 8, 8)", 0, x -> x.begin(6, 4, 8, 8) ? 1 : 0),
        new Step("poke(28, 1)", 1, x -> x.poke(28, 1) ? 1 : 0),
        new Step("read()", SevenPassImage.FRAME, x -> x.read()),
        new Step("seal(8)", 1, x -> x.seal(8) ? 1 : 0),
        new Step("read()", SevenPassImage.ROWS, x -> x.read()),
        new Step("poke(28, 2)", 1, x -> x.poke(28, 2) ? 1 : 0),
        new Step("seal(8)", 1, x -> x.seal(8) ? 1 : 0),
        new Step("read()", SevenPassImage.HEADER, x -> x.read()),
        new Step("poke(28, 0)", 1, x -> x.poke(28, 0) ? 1 : 0),
        new Step("seal(8)", 1, x -> x.seal(8) ? 1 : 0),
        new Step("shape()", 6080808, x -> x.shape()),
        new Step("read()", 0, x -> x.read()),
        new Step("shape()", 80301, x -> x.shape()),
        new Step("get(1, 0, 0)", 6, x -> x.get(1, 0, 0)),
        new Step("rows(0)", 1, x -> x.rows(0)),
        new Step("copies()", 0, x -> x.copies()),
        new Step("poke(41, 121)", 1, x -> x.poke(41, 121) ? 1 : 0),
        new Step("seal(33)", 1, x -> x.seal(33) ? 1 : 0),
        new Step("read()", SevenPassImage.STREAM, x -> x.read()),
        new Step("append(0)", 1, x -> x.append(0) ? 1 : 0),
        new Step("seal(58)", 0, x -> x.seal(58) ? 1 : 0),
        new Step("read()", SevenPassImage.FRAME, x -> x.read()),
        new Step("trim(71)", 0, x -> x.trim(71) ? 1 : 0),
        new Step("trim(0)", 1, x -> x.trim(0) ? 1 : 0),
        new Step("begin(0, 1, 8, 8)", 1, x -> x.begin(0, 1, 8, 8) ? 1 : 0),
        new Step("write(true, 5)", 67, x -> x.write(true, 5)),
        new Step("rows(0)", 15, x -> x.rows(0)),
        new Step("copies()", 1, x -> x.copies()),
        new Step("write(true, 6)", SevenPassImage.NONE, x -> x.write(true, 6)),
        new Step("trim(0)", 1, x -> x.trim(0) ? 1 : 0)};

    private interface Call {
        int on(SevenPassImage x);
    }

    private record Step(String name, int want, Call call) {
    }

    public static void main(String[] args) {
        everyCallIsOnceTheLast();
        oneCallAllTheTime();
        objectsApart();
        Checks.end();
    }

    private static void take(SevenPassImage x, int number, int step) {
        Step one = ROUND[step % ROUND.length];
        Checks.due("call " + number + ", " + one.name(), one.call().on(x), one.want());
    }

    private static void everyCallIsOnceTheLast() {
        for (int before = 0; before < ROUND.length; before++) {
            SevenPassImage x = new SevenPassImage();
            for (int number = 1; number <= before; number++) {
                Checks.due("call " + number + ", length()", x.length(), 0);
            }
            for (int number = before + 1; number <= CALLS; number++) {
                take(x, number, number - before - 1);
            }
        }
    }

    private static void oneCallAllTheTime() {
        SevenPassImage x = new SevenPassImage();
        for (int number = 1; number < CALLS; number++) {
            Checks.due("append, call " + number, x.append(number % 256), true);
        }
        Checks.due("length() after all", x.length(), CALLS - 1);
        SevenPassImage written = new SevenPassImage();
        written.begin(0, 8, 3, 1);
        for (int number = 2; number <= CALLS; number++) {
            int filter = number % 6;
            // Only the number of filter 0 begins a copy of the three bytes 0 behind it.
            int want = filter == 0 || filter == 5 ? 67 : 69;
            Checks.due("write, call " + number, written.write(false, filter), want);
        }
        SevenPassImage read = new SevenPassImage();
        read.begin(6, 8, 8, 8);
        read.write(true, 4);
        for (int number = 3; number <= CALLS; number++) {
            Checks.due("read, call " + number, read.read(), 0);
        }
    }

    /** What one object is told says nothing to another one. */
    private static void objectsApart() {
        SevenPassImage x = new SevenPassImage();
        SevenPassImage other = new SevenPassImage();
        int ahead = ROUND.length / 2;
        for (int step = 0; step < ahead; step++) {
            take(x, step, step);
        }
        for (int step = 0; step < 2 * ROUND.length; step++) {
            take(x, step, step + ahead);
            take(other, step, step);
        }
    }
}
