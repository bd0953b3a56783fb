import java.util.List;
import java.util.function.Supplier;
import java.util.function.ToIntFunction;

/**
 * "Refused, and nothing changes: UNKNOWN (..), OUTSIDE (..), NOT (..), FULL: the first of these that fits."
 * Each call's refusals, those of two that fit at once, and that nothing has changed behind them.
 */
public final class RefusedTest {
    private static final int UNKNOWN = -2, OUTSIDE = -3, NOT = -4, FULL = -5;
    private static final int HIGH = Integer.MAX_VALUE, LOW = Integer.MIN_VALUE;
    private static final int[] NO_PLACE = {-1, 12, 13, 32, HIGH, LOW};
    private static final int[] NO_GUEST = {-1, 6, 7, 32, HIGH, LOW};
    private static final int[] NO_MINUTE = {-1, 100, HIGH, LOW};
    private static final int[] NO_EITHER = {-1, 2, HIGH, LOW};
    /** Of a to b: each out of its bounds, both, and b below a. */
    private static final int[][] NO_SPAN = {{-1, 5}, {0, 100}, {100, 100}, {-1, -1}, {5, 4}, {99, 0}, {LOW, HIGH}};
    private static final String INN = "inn 12;chair 0;chair 5;chair 11;plain 1 1 0 11;sly 10 2 1 20;faint 4 3 0 30;"
        + "stout 7 1 1 40;plain 3 0 0 50;stout 11 3 1 60";
    private static final Check CHECK = new Check("refused");

    /** How an object is made for a refusal; all of it is otherwise than at the begin. */
    private record Scene(String name, Supplier<OneTooFew> made) {
    }

    private static final Scene PLAYING = new Scene("while it plays", RefusedTest::playing);
    private static final Scene STOPPED = new Scene("while it has stopped", RefusedTest::stopped);
    private static final List<Scene> BOTH = List.of(PLAYING, STOPPED);

    public static void main(String[] args) {
        writeRefuses();
        innRefuses();
        placeRefuses();
        guestRefuses();
        asRefuses();
        walkRefuses();
        stopAndPlayRefuse();
        keepAndBackRefuse();
        standingAndPriceRefuse();
        oddsRefuses();
        surestRefuses();
        stillRefuses();
        plotRefuses();
        laidRefuses();
        leftRefuses();
        seenRefuses();
        fitsAndCountRefuse();
        aNewObjectRefuses();
        whatIsAskedOrForetoldChangesNothing();
        CHECK.end();
    }

    private static OneTooFew playing() {
        OneTooFew x = Check.told(INN);
        x.walk(4);
        x.stop();
        x.keep(0);
        x.play();
        x.walk(3);
        x.keep(1);
        x.walk(2);
        x.seen(3, 1);
        x.seen(1, 0);
        Check.write(x, "take 5;chair 1");
        return x;
    }

    private static OneTooFew stopped() {
        OneTooFew x = playing();
        x.stop();
        return x;
    }

    private static void refused(String what, Scene scene, int want, ToIntFunction<OneTooFew> call) {
        Twins.unchanged(CHECK, what + " " + scene.name(), scene.made(), call, want);
    }

    private static void refusedInBoth(String what, int want, ToIntFunction<OneTooFew> call) {
        for (Scene scene : BOTH) {
            refused(what, scene, want, call);
        }
    }

    /** Promise 2: "OUTSIDE; FULL." */
    private static void writeRefuses() {
        int[] wrong = {0, 9, -1, HIGH, LOW};
        Scene full = new Scene("with 200 bytes", () -> {
            OneTooFew x = playing();
            Check.write(x, " ".repeat(186));
            return x;
        });
        Scene nearlyFull = new Scene("with 193 bytes", () -> {
            OneTooFew x = playing();
            Check.write(x, " ".repeat(179));
            return x;
        });
        for (int n : wrong) {
            refusedInBoth("write " + n, OUTSIDE, x -> x.write(-1, n));
            refused("write " + n, full, OUTSIDE, x -> x.write(-1, n));
            refused("write " + n, nearlyFull, OUTSIDE, x -> x.write(-1, n));
        }
        for (int n = 1; n <= 8; n++) {
            int number = n;
            refused("write " + n, full, FULL, x -> x.write(-1, number));
        }
        refused("write 8", nearlyFull, FULL, x -> x.write(-1, 8));
    }

    /** Promise 5: "NOT: it has a FAULT." */
    private static void innRefuses() {
        String[] faulty = {";", ";x", ";inn 2", ";inn 3;chair 3", ";chair 1", ";nobody;take 1;take 1",
            ";plain 0 0 0 0"};
        for (Scene scene : BOTH) {
            for (String more : faulty) {
                refused("inn with '" + more + "'", new Scene(scene.name(), () -> {
                    OneTooFew x = scene.made().get();
                    Check.write(x, more);
                    return x;
                }), NOT, OneTooFew::inn);
            }
            refused("inn with an empty text", new Scene(scene.name(), () -> {
                OneTooFew x = scene.made().get();
                x.erase();
                return x;
            }), NOT, OneTooFew::inn);
        }
    }

    /** Promise 6: "UNKNOWN; OUTSIDE." */
    private static void placeRefuses() {
        int[] noWhat = {-1, 3, HIGH, LOW};
        for (int place : NO_PLACE) {
            refusedInBoth("place " + place, UNKNOWN, x -> x.place(place, 0));
            refusedInBoth("place " + place + " and what 3", UNKNOWN, x -> x.place(place, 3));
        }
        for (int what : noWhat) {
            refusedInBoth("place 0, what " + what, OUTSIDE, x -> x.place(0, what));
            refusedInBoth("place 11, what " + what, OUTSIDE, x -> x.place(11, what));
        }
    }

    /** Promise 7: "UNKNOWN; OUTSIDE." */
    private static void guestRefuses() {
        int[] noWhat = {-1, 7, HIGH, LOW};
        for (int guest : NO_GUEST) {
            refusedInBoth("guest " + guest, UNKNOWN, x -> x.guest(guest, 0));
            refusedInBoth("guest " + guest + " and what 7", UNKNOWN, x -> x.guest(guest, 7));
        }
        for (int what : noWhat) {
            refusedInBoth("guest 0, what " + what, OUTSIDE, x -> x.guest(0, what));
            refusedInBoth("guest 5, what " + what, OUTSIDE, x -> x.guest(5, what));
        }
    }

    /** Promise 8: "UNKNOWN; OUTSIDE; NOT: he is none such." */
    private static void asRefuses() {
        int[] noKind = {-1, 5, HIGH, LOW};
        for (int guest : NO_GUEST) {
            refusedInBoth("guest " + guest + " as 0", UNKNOWN, x -> x.as(guest, 0));
            refusedInBoth("guest " + guest + " as 5", UNKNOWN, x -> x.as(guest, 5));
        }
        for (int kind : noKind) {
            refusedInBoth("guest 0 as " + kind, OUTSIDE, x -> x.as(0, kind));
            refusedInBoth("guest 5 as " + kind, OUTSIDE, x -> x.as(5, kind));
        }
        refusedInBoth("plain as sly", NOT, x -> x.as(0, 2));
        refusedInBoth("sly as faint", NOT, x -> x.as(1, 3));
        refusedInBoth("faint as stout", NOT, x -> x.as(2, 4));
        refusedInBoth("stout as plain", NOT, x -> x.as(3, 1));
    }

    private static OneTooFew atMinute9999() {
        OneTooFew x = Check.told("inn 3;chair 0;plain 1 1 0 5;plain 2 2 1 6");
        x.stop();
        x.keep(0);
        x.play();
        for (int i = 0; i < 101; i++) {
            x.walk(99);
        }
        x.keep(1);
        Check.write(x, "chair 1");
        return x;
    }

    /** Promise 9: "OUTSIDE; NOT: it has stopped; FULL: above 9999 in all." */
    private static void walkRefuses() {
        int[] wrong = {0, 100, -1, HIGH, LOW};
        Scene last = new Scene("at minute 9999", RefusedTest::atMinute9999);
        Scene lastStopped = new Scene("stopped at minute 9999", () -> {
            OneTooFew x = atMinute9999();
            x.stop();
            return x;
        });
        for (int n : wrong) {
            refusedInBoth("walk " + n, OUTSIDE, x -> x.walk(n));
            refused("walk " + n, last, OUTSIDE, x -> x.walk(n));
            refused("walk " + n, lastStopped, OUTSIDE, x -> x.walk(n));
        }
        for (int n = 1; n <= 99; n += 49) {
            int number = n;
            refused("walk " + n, STOPPED, NOT, x -> x.walk(number));
            refused("walk " + n, last, FULL, x -> x.walk(number));
            refused("walk " + n, lastStopped, NOT, x -> x.walk(number));
        }
    }

    /** Promises 10 and 11: "NOT: it has stopped.", "NOT: it plays." */
    private static void stopAndPlayRefuse() {
        refused("stop", STOPPED, NOT, OneTooFew::stop);
        refused("play", PLAYING, NOT, OneTooFew::play);
    }

    /** Promises 12 and 13: "UNKNOWN: no such k.", "UNKNOWN; NOT: nothing was kept since the last text." */
    private static void keepAndBackRefuse() {
        Scene nothingKept = new Scene("with nothing kept", () -> {
            OneTooFew x = playing();
            x.inn();
            x.walk(5);
            x.stop();
            return x;
        });
        Scene oneKept = new Scene("with 1 kept alone", () -> {
            OneTooFew x = nothingKept.made().get();
            x.keep(1);
            x.play();
            x.walk(1);
            return x;
        });
        for (int k : NO_EITHER) {
            refusedInBoth("keep " + k, UNKNOWN, x -> x.keep(k));
            refusedInBoth("back " + k, UNKNOWN, x -> x.back(k));
            refused("keep " + k, nothingKept, UNKNOWN, x -> x.keep(k));
            refused("back " + k, nothingKept, UNKNOWN, x -> x.back(k));
        }
        refused("back 0", nothingKept, NOT, x -> x.back(0));
        refused("back 1", nothingKept, NOT, x -> x.back(1));
        refused("back 0", oneKept, NOT, x -> x.back(0));
    }

    /** Promises 14 and 19: "OUTSIDE." */
    private static void standingAndPriceRefuse() {
        for (int t : NO_MINUTE) {
            refusedInBoth("standing " + t, OUTSIDE, x -> x.standing(t));
            refusedInBoth("price " + t, OUTSIDE, x -> x.price(t));
        }
    }

    /** Promise 15: "UNKNOWN; OUTSIDE." */
    private static void oddsRefuses() {
        for (int guest : NO_GUEST) {
            refusedInBoth("odds of " + guest, UNKNOWN, x -> x.odds(guest, 0, 9, 0));
            refusedInBoth("odds of " + guest + ", b below a", UNKNOWN, x -> x.odds(guest, 9, 0, 0));
            refusedInBoth("odds of " + guest + ", part 2", UNKNOWN, x -> x.odds(guest, 0, 9, 2));
        }
        for (int[] span : NO_SPAN) {
            refusedInBoth("odds, " + span[0] + " to " + span[1], OUTSIDE, x -> x.odds(0, span[0], span[1], 0));
        }
        for (int part : NO_EITHER) {
            refusedInBoth("odds, part " + part, OUTSIDE, x -> x.odds(5, 0, 9, part));
        }
    }

    /** Promise 16: "UNKNOWN; OUTSIDE." */
    private static void surestRefuses() {
        int[] noWhat = {-1, 3, HIGH, LOW};
        for (int guest : NO_GUEST) {
            refusedInBoth("surest of " + guest, UNKNOWN, x -> x.surest(guest, 0, 9, 0));
            refusedInBoth("surest of " + guest + ", b below a", UNKNOWN, x -> x.surest(guest, 9, 0, 0));
            refusedInBoth("surest of " + guest + ", what 3", UNKNOWN, x -> x.surest(guest, 0, 9, 3));
        }
        for (int[] span : NO_SPAN) {
            refusedInBoth("surest, " + span[0] + " to " + span[1], OUTSIDE, x -> x.surest(0, span[0], span[1], 0));
        }
        for (int what : noWhat) {
            refusedInBoth("surest, what " + what, OUTSIDE, x -> x.surest(5, 0, 9, what));
        }
    }

    /** Promise 17: "OUTSIDE." */
    private static void stillRefuses() {
        for (int[] span : NO_SPAN) {
            refusedInBoth("still, " + span[0] + " to " + span[1], OUTSIDE, x -> x.still(span[0], span[1], 0));
        }
        for (int what : NO_EITHER) {
            refusedInBoth("still, what " + what, OUTSIDE, x -> x.still(0, 9, what));
        }
    }

    /** Promise 18: "UNKNOWN (GUEST, set; he is one of it); OUTSIDE." */
    private static void plotRefuses() {
        int[] noSet = {1, 3, 63, 64, 66, 1 << 30, -1, -2, HIGH, LOW};
        for (int guest : NO_GUEST) {
            refusedInBoth("plot on " + guest, UNKNOWN, x -> x.plot(guest, 6, 5, 0));
            refusedInBoth("plot on " + guest + " at 100", UNKNOWN, x -> x.plot(guest, 6, 100, 0));
        }
        for (int set : noSet) {
            refusedInBoth("plot by " + set, UNKNOWN, x -> x.plot(0, set, 5, 0));
            refusedInBoth("plot by " + set + " at 100", UNKNOWN, x -> x.plot(0, set, 100, 0));
            refusedInBoth("plot by " + set + ", what 2", UNKNOWN, x -> x.plot(0, set, 5, 2));
        }
        refusedInBoth("plot on 5 by himself", UNKNOWN, x -> x.plot(5, 32, 5, 0));
        for (int t : NO_MINUTE) {
            refusedInBoth("plot at " + t, OUTSIDE, x -> x.plot(0, 62, t, 0));
        }
        for (int what : NO_EITHER) {
            refusedInBoth("plot, what " + what, OUTSIDE, x -> x.plot(5, 31, 5, what));
        }
    }

    /** Promise 20: "OUTSIDE: c, too." */
    private static void laidRefuses() {
        int[] noNumber = {-1, 13, 32, HIGH, LOW};
        for (int c : noNumber) {
            refusedInBoth("laid of " + c, OUTSIDE, x -> x.laid(c, 0, 0, 0));
        }
        for (int[] span : NO_SPAN) {
            refusedInBoth("laid, " + span[0] + " to " + span[1], OUTSIDE, x -> x.laid(1, span[0], span[1], 0));
        }
        for (int what : NO_EITHER) {
            refusedInBoth("laid, what " + what, OUTSIDE, x -> x.laid(1, 0, 0, what));
        }
    }

    /** Promise 21: "OUTSIDE." */
    private static void leftRefuses() {
        for (int t : NO_MINUTE) {
            refusedInBoth("left at " + t, OUTSIDE, x -> x.left(t, 0));
        }
        for (int what : NO_EITHER) {
            refusedInBoth("left, what " + what, OUTSIDE, x -> x.left(5, what));
        }
    }

    /** Promise 22: "UNKNOWN; OUTSIDE (stood 0, 1); FULL." */
    private static void seenRefuses() {
        Scene full = new Scene("with six seen", () -> {
            OneTooFew x = playing();
            for (int i = 0; i < 4; i++) {
                x.seen(i, 0);
            }
            return x;
        });
        for (int guest : NO_GUEST) {
            refusedInBoth("seen " + guest, UNKNOWN, x -> x.seen(guest, 0));
            refusedInBoth("seen " + guest + ", stood 2", UNKNOWN, x -> x.seen(guest, 2));
            refused("seen " + guest, full, UNKNOWN, x -> x.seen(guest, 0));
            refused("seen " + guest + ", stood 2", full, UNKNOWN, x -> x.seen(guest, 2));
        }
        for (int stood : NO_EITHER) {
            refusedInBoth("seen, stood " + stood, OUTSIDE, x -> x.seen(0, stood));
            refused("seen, stood " + stood, full, OUTSIDE, x -> x.seen(5, stood));
        }
        refused("seen 0, stood", full, FULL, x -> x.seen(0, 1));
        refused("seen 5, not stood", full, FULL, x -> x.seen(5, 0));
    }

    /** Promises 24 and 25: "OUTSIDE." */
    private static void fitsAndCountRefuse() {
        int[] noCount = {-1, 8, HIGH, LOW};
        for (int what : NO_EITHER) {
            refusedInBoth("fits, what " + what, OUTSIDE, x -> x.fits(what));
        }
        for (int what : noCount) {
            refusedInBoth("count, what " + what, OUTSIDE, x -> x.count(what));
        }
    }

    /** Promise 1: eight places and nobody, so that every guest is UNKNOWN. */
    private static void aNewObjectRefuses() {
        Scene fresh = new Scene("of a new object", OneTooFew::new);
        refused("place 8", fresh, UNKNOWN, x -> x.place(8, 0));
        refused("guest 0", fresh, UNKNOWN, x -> x.guest(0, 7));
        refused("guest 0 as 0", fresh, UNKNOWN, x -> x.as(0, 5));
        refused("inn", fresh, NOT, OneTooFew::inn);
        refused("play", fresh, NOT, OneTooFew::play);
        refused("back 0", fresh, NOT, x -> x.back(0));
        refused("back 2", fresh, UNKNOWN, x -> x.back(2));
        refused("odds of 0", fresh, UNKNOWN, x -> x.odds(0, 9, 0, 0));
        refused("surest of 0", fresh, UNKNOWN, x -> x.surest(0, 9, 0, 0));
        refused("plot on 0", fresh, UNKNOWN, x -> x.plot(0, 0, 100, 0));
        refused("laid of 9", fresh, OUTSIDE, x -> x.laid(9, 0, 9, 0));
        refused("seen 0", fresh, UNKNOWN, x -> x.seen(0, 2));
    }

    /** "FORETOLD (nothing changes)", and what is only asked changes nothing either. */
    private static void whatIsAskedOrForetoldChangesNothing() {
        List<ToIntFunction<OneTooFew>> calls = List.of(OneTooFew::fault, x -> x.place(5, 1), x -> x.guest(3, 5),
            x -> x.as(1, 1), x -> x.standing(7), x -> x.odds(3, 0, 99, 0), x -> x.surest(3, 0, 9, 0),
            x -> x.surest(4, 0, 9, 2), x -> x.still(0, 9, 0), x -> x.still(3, 5, 1), x -> x.plot(0, 62, 3, 0),
            x -> x.plot(5, 31, 8, 1), x -> x.price(2), x -> x.laid(2, 0, 3, 1), x -> x.laid(0, 0, 3, 0),
            x -> x.laid(12, 0, 0, 1), x -> x.left(4, 0), x -> x.left(9, 1), x -> x.fits(0), x -> x.fits(1),
            x -> x.count(2));
        for (Scene scene : BOTH) {
            for (int i = 0; i < calls.size(); i++) {
                ToIntFunction<OneTooFew> call = calls.get(i);
                refused("asked or foretold, call " + i, scene, call.applyAsInt(scene.made().get()), call);
            }
        }
    }
}
