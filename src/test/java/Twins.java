import java.util.Arrays;
import java.util.function.Supplier;
import java.util.function.ToIntFunction;

/** Two objects made alike: a call that must change nothing is made on one, and nothing may tell them apart then. */
final class Twins {
    private Twins() {
    }

    /** All that can be asked of an object without a change of it. */
    static int[] look(OneTooFew x) {
        int places = x.count(0);
        int guests = x.count(1);
        int[] seen = new int[8 + 3 * places + 8 * guests + 3];
        int n = 0;
        for (int what = 0; what < 8; what++) {
            seen[n++] = x.count(what);
        }
        for (int place = 0; place < places; place++) {
            for (int what = 0; what < 3; what++) {
                seen[n++] = x.place(place, what);
            }
        }
        for (int guest = 0; guest < guests; guest++) {
            for (int what = 0; what < 7; what++) {
                seen[n++] = x.guest(guest, what);
            }
            seen[n++] = x.as(guest, 0);
        }
        seen[n++] = x.fits(0);
        seen[n++] = x.fits(1);
        seen[n] = x.fault();
        return seen;
    }

    /** A call that answers what is due and changes nothing, neither now nor behind back, play or a text. */
    static void unchanged(Check check, String what, Supplier<OneTooFew> made, ToIntFunction<OneTooFew> call, int want) {
        OneTooFew one = made.get();
        OneTooFew other = made.get();
        check.due(what, call.applyAsInt(one), want);
        alike(check, what + ", now", one, other);
        check.due(what + ", play", one.play(), other.play());
        check.due(what + ", walk", one.walk(1), other.walk(1));
        check.due(what + ", stop", one.stop(), other.stop());
        check.due(what + ", back 0", one.back(0), other.back(0));
        alike(check, what + ", back 0", one, other);
        check.due(what + ", back 1", one.back(1), other.back(1));
        alike(check, what + ", back 1", one, other);
        check.due(what + ", inn", one.inn(), other.inn());
        alike(check, what + ", behind inn", one, other);
    }

    private static void alike(Check check, String when, OneTooFew one, OneTooFew other) {
        check.holds(when + ": alike", Arrays.equals(look(one), look(other)));
    }
}
