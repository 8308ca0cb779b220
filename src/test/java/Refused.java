/** Refused calls: what they answer, and that they change nothing but, for a FINDING, count(8). */
final class Refused {
    interface Maker {
        SameWrong make();
    }

    interface Call {
        long ask(SameWrong x);
    }

    interface CallWith {
        long ask(SameWrong x, int number);
    }

    private Refused() {
    }

    /** The answer says what it is: -11 to -15 are FINDINGS. */
    static void call(String name, Maker maker, long want, Call call) {
        boolean isFinding = want <= -11 && want >= -15;
        call(name, maker, want, isFinding ? (int) (-10 - want) : maker.make().count(8), call);
    }

    /** With the number that count(8) has to tell then. */
    static void call(String name, Maker maker, long want, int finding, Call call) {
        SameWrong x = maker.make(), twin = maker.make();
        Check.due(name, call.ask(x), want);
        Check.due(name + ", count(8)", x.count(8), finding);
        Check.alike(name + " changes nothing", Look.at(x), Look.at(twin));
    }

    /** All numbers outside least .. most: those next to them, the ends of int, and such as look alike when cut. */
    static void outside(String name, Maker maker, int least, int most, long want, CallWith call) {
        long[] numbers = {least - 1L, least - 2L, most + 1L, most + 2L, Integer.MIN_VALUE, Integer.MIN_VALUE + 1L,
            Integer.MAX_VALUE, Integer.MAX_VALUE - 1L, least + 256L, least - 256L, least + 65536L, least - 65536L,
            least + (1L << 30), -least - 1L};
        for (long number : numbers) {
            if ((number < least || number > most) && number == (int) number) {
                int v = (int) number;
                call(name + " of " + v, maker, want, x -> call.ask(x, v));
            }
        }
    }
}
