import java.util.function.Consumer;
import java.util.function.ToLongFunction;

/**
 * Looks that nothing has changed: two objects have the same past, one of them is refused a call, and
 * then both are asked for everything that can be asked (some 360 calls, so that the past may have 150).
 */
final class Refusal {
    private final Check check;
    private final Consumer<OnePlaceEach> past;

    Refusal(Check check, Consumer<OnePlaceEach> past) {
        this.check = check;
        this.past = past;
    }

    void bad(String call, ToLongFunction<OnePlaceEach> refused) {
        refuse(call, OnePlaceEach.BAD, refused);
    }

    void no(String call, ToLongFunction<OnePlaceEach> refused) {
        refuse(call, OnePlaceEach.NO, refused);
    }

    private void refuse(String call, long due, ToLongFunction<OnePlaceEach> refused) {
        OnePlaceEach asked = new OnePlaceEach();
        OnePlaceEach twin = new OnePlaceEach();
        past.accept(asked);
        past.accept(twin);
        check.due(call, due, refused.applyAsLong(asked));
        sameRow(call, asked, twin);
        sameStepped(call, asked, twin);
        // What SEED is shows only in the steps that come of it.
        alike(call + ", then go(500)", twin.go(500), asked.go(500));
        sameStepped(call + ", then go(500)", asked, twin);
    }

    private void sameRow(String call, OnePlaceEach asked, OnePlaceEach twin) {
        for (int k = 0; k <= 8; k++) {
            alike(call + ", then sum(" + k + ")", twin.sum(k), asked.sum(k));
        }
        for (int state = 0; state <= 256; state++) {
            alike(call + ", then weight(" + state + ")", twin.weight(state), asked.weight(state));
        }
        for (int what = 0; what <= 1; what++) {
            alike(call + ", then current(" + what + ")", twin.current(what), asked.current(what));
            alike(call + ", then extreme(" + what + ")", twin.extreme(what), asked.extreme(what));
        }
    }

    private void sameStepped(String call, OnePlaceEach asked, OnePlaceEach twin) {
        for (int what = 0; what <= 7; what++) {
            alike(call + ", then told(" + what + ")", twin.told(what), asked.told(what));
        }
        for (int place = 0; place <= 30; place++) {
            alike(call + ", then at(" + place + ")", twin.at(place), asked.at(place));
        }
    }

    private void alike(String call, long want, long got) {
        check.due(call, want, got);
    }
}
