import java.util.function.IntBinaryOperator;
import java.util.function.IntUnaryOperator;

/** The edges of promises 14 to 25, what is foretold and what was seen: a part for each sentence. */
public final class ForetoldEdgesTest {
    private static final int NONE = -1, UNKNOWN = -2, OUTSIDE = -3, FULL = -5;
    private static final int[] NO_MINUTES = {-1, 100, -100, 101, 9999, Integer.MAX_VALUE, Integer.MIN_VALUE};
    private static final int[] WRONG_EITHER = {-1, 2, 3, 100, Integer.MAX_VALUE, Integer.MIN_VALUE};
    private static final int SOME_CALLS = 17;
    private static final Check CHECK = new Check("edges of what is foretold");

    public static void main(String[] args) {
        minutesAreZeroToNinetyNine();
        spansAreOfMinutesNotBelowTheirBegin();
        standingIsAsAStopAtThatMinute();
        itIsForetoldFromTheBegin();
        foretoldCallsAreApart();
        standingWithoutGuestsOrChairs();
        oddsAreInLowestTerms();
        oddsOfNeverAndAlways();
        oddsHaveTwoParts();
        surestIsTheLeastPaceThenWay();
        surestMayBeAnyOfTheEight();
        surestLeavesAllElseAsTold();
        surestTellsThreeThings();
        stillCountsRows();
        stillTellsTheFirstByBits();
        stillMayFindNone();
        stillIsByWaysAsToldNotPaces();
        plotMayNeedNobody();
        plotMayNeedAll();
        plotTellsTheLeastOfSeveral();
        plotMayFindNone();
        plotsSetIsOfGuestsWithoutHim();
        priceIsTheGreatestWorthStanding();
        priceIsElseZero();
        laidTakesNoneToAllPlaces();
        laidWithoutGuestsIsZero();
        laidIsTheLeastSetOfSeveral();
        laidIsHowFarApart();
        leftWithOneGuestAtMost();
        leftTillNobodyWentOut();
        leftTillOneAtMostIsLeft();
        theChairAtTheLeastPlaceGoes();
        thoseLeftBeginAnew();
        seenAreSixAtMost();
        forgetTellsHowMany();
        fitsAreOfMinutesZeroToNinetyNine();
        fitsMayFindNone();
        countTellsEightThings();
        CHECK.end();
    }

    private static void due(String what, long got, long want) {
        CHECK.due(what, got, want);
    }

    private static void dueOutside(String what, IntUnaryOperator call, int[] wrong) {
        for (int number : wrong) {
            due(what + " " + number, call.applyAsInt(number), OUTSIDE);
        }
    }

    private static void dueInside(String what, int answer) {
        CHECK.holds(what + " is taken, answered " + answer, answer >= NONE);
    }

    private static OneTooFew someInn() {
        return Check.told("inn 7;chair 0;chair 3;plain 0 1 0 5;sly 2 2 1 6;stout 4 3 0 7;faint 6 1 1 8");
    }

    /** "by MINUTES t (0 .. 99) at which it may STOP". */
    private static void minutesAreZeroToNinetyNine() {
        OneTooFew x = someInn();
        minutes("standing", x::standing);
        minutes("plot", t -> x.plot(0, 2, t, 0));
        minutes("price", x::price);
        minutes("left", t -> x.left(t, 0));
    }

    private static void minutes(String what, IntUnaryOperator call) {
        dueInside(what + " at 0", call.applyAsInt(0));
        dueInside(what + " at 99", call.applyAsInt(99));
        dueOutside(what, call, NO_MINUTES);
    }

    /** "OUTSIDE (another number is not as told; b below a)". */
    private static void spansAreOfMinutesNotBelowTheirBegin() {
        OneTooFew x = someInn();
        span("odds", (a, b) -> x.odds(0, a, b, 1));
        span("surest", (a, b) -> x.surest(0, a, b, 2));
        span("still", (a, b) -> x.still(a, b, 0));
        span("laid", (a, b) -> x.laid(2, a, b, 0));
    }

    private static void span(String what, IntBinaryOperator call) {
        int[][] taken = {{0, 0}, {0, 99}, {99, 99}, {0, 1}, {98, 99}, {50, 50}};
        for (int[] ab : taken) {
            dueInside(what + " of " + ab[0] + " to " + ab[1], call.applyAsInt(ab[0], ab[1]));
        }
        int[][] wrong = {{1, 0}, {99, 98}, {99, 0}, {50, 49}, {-1, -1}, {100, 100}, {100, 99}, {0, -1}};
        for (int[] ab : wrong) {
            due(what + " of " + ab[0] + " to " + ab[1], call.applyAsInt(ab[0], ab[1]), OUTSIDE);
        }
        dueOutside(what + " to 99 of", a -> call.applyAsInt(a, 99), NO_MINUTES);
        dueOutside(what + " of 0 to", b -> call.applyAsInt(0, b), NO_MINUTES);
    }

    /** Promise 14: "STANDING at t, by bits." */
    private static void standingIsAsAStopAtThatMinute() {
        String[] texts = {"inn 7;chair 0;chair 3;plain 0 1 0 5;sly 2 2 1 6;stout 4 3 0 7;faint 6 1 1 8",
            "inn 12;chair 0;chair 11;plain 11 3 0 5;plain 0 3 1 6;sly 6 2 1 7;stout 5 1 0 8;stout 9 2 0 8",
            "inn 3;chair 2;plain 0 1 0 5;plain 1 2 1 6;plain 2 3 0 7"};
        for (String text : texts) {
            for (int t = 0; t <= 99; t++) {
                OneTooFew x = Check.told(text);
                int foretold = x.standing(t);
                if (t > 0) {
                    x.walk(t);
                }
                due("standing at " + t + " of " + text, foretold, x.stop());
            }
        }
    }

    /** "FORETOLD (nothing changes), from the begin". */
    private static void itIsForetoldFromTheBegin() {
        OneTooFew x = someInn();
        int[] atFirst = foretold(x);
        x.walk(5);
        sameForetold("in the music", atFirst, foretold(x));
        x.stop();
        sameForetold("at a stop", atFirst, foretold(x));
        x.play();
        x.walk(3);
        sameForetold("behind a stop", atFirst, foretold(x));
    }

    private static int[] foretold(OneTooFew x) {
        return new int[] {x.standing(2), x.odds(0, 0, 9, 0), x.surest(1, 0, 9, 2), x.still(0, 9, 1),
            x.plot(1, 5, 3, 1), x.price(4), x.laid(2, 0, 9, 1), x.left(5, 0), x.fits(0)};
    }

    private static void sameForetold(String when, int[] want, int[] got) {
        for (int i = 0; i < want.length; i++) {
            due("foretold call " + i + " " + when, got[i], want[i]);
        }
    }

    /** "(nothing changes)": no call's answer hangs on what was foretold ahead of it. */
    private static void foretoldCallsAreApart() {
        for (int first = 0; first < SOME_CALLS; first++) {
            for (int then = 0; then < SOME_CALLS; then++) {
                OneTooFew x = sixGuests();
                someCall(x, first);
                due("call " + then + " behind call " + first, someCall(x, then), someCall(sixGuests(), then));
            }
        }
    }

    /** Guest 5 is surest by pace 3 back at minute 1, guest 0 by pace 2 on over all minutes. */
    private static OneTooFew sixGuests() {
        return Check.told("inn 12;chair 0;plain 6 0 0 1;plain 2 0 0 2;faint 0 1 0 3;stout 4 0 0 4;sly 8 2 1 5;"
            + "plain 4 1 0 6");
    }

    private static int someCall(OneTooFew x, int which) {
        return switch (which) {
            case 0 -> x.standing(1);
            case 1 -> x.odds(5, 0, 9, 0);
            case 2 -> x.surest(5, 1, 1, 0);
            case 3 -> x.surest(5, 1, 1, 1);
            case 4 -> x.surest(0, 0, 99, 0);
            case 5 -> x.surest(0, 0, 99, 1);
            case 6 -> x.still(0, 0, 0);
            case 7 -> x.still(1, 3, 1);
            case 8 -> x.plot(5, 31, 1, 0);
            case 9 -> x.plot(2, 9, 1, 1);
            case 10 -> x.price(0);
            case 11 -> x.laid(2, 0, 3, 1);
            case 12 -> x.laid(0, 0, 99, 0);
            case 13 -> x.left(1, 0);
            case 14 -> x.left(1, 1);
            case 15 -> x.fits(0);
            default -> x.fits(1);
        };
    }

    /** Promise 14 on the empty and the full. */
    private static void standingWithoutGuestsOrChairs() {
        due("without guests", new OneTooFew().standing(0), 0);
        due("without guests at 99", Check.told("chair 0").standing(99), 0);
        OneTooFew x = Check.told("inn 9;plain 0 0 0 0;sly 0 0 0 0;stout 0 0 0 0;plain 0 0 0 0;faint 0 0 0 0;"
            + "plain 0 0 0 0");
        due("without chairs all but the faint one", x.standing(99), 47);
        x = Check.told("inn 3;chair 0;chair 1;chair 2;plain 0 1 0 0;sly 0 2 0 0;faint 0 0 0 0");
        due("a chair for each", x.standing(99), 0);
    }

    /** "Parts are told in lowest terms: above (part 0), below (1)." */
    private static void oddsAreInLowestTerms() {
        // Guest 1 stays at 1, a place from the chair; guest 0 sits only where the chair is, and else stands.
        OneTooFew x = Check.told("inn 12;chair 0;plain 1 0 0 0;plain 0 1 0 0");
        int[][] spans = {{0, 0, 0, 1}, {1, 1, 1, 1}, {0, 1, 1, 2}, {0, 3, 3, 4}, {0, 11, 11, 12}, {0, 23, 11, 12},
            {0, 12, 11, 13}, {12, 12, 0, 1}, {1, 11, 1, 1}, {0, 99, 91, 100}, {1, 99, 91, 99}, {0, 24, 22, 25},
            {12, 24, 11, 13}, {0, 35, 11, 12}, {11, 13, 2, 3}, {10, 13, 3, 4}, {9, 14, 5, 6}, {96, 99, 3, 4}};
        for (int[] span : spans) {
            due("above of " + span[0] + " to " + span[1], x.odds(1, span[0], span[1], 0), span[2]);
            due("below of " + span[0] + " to " + span[1], x.odds(1, span[0], span[1], 1), span[3]);
        }
        due("above of the other one, 9 of 100", x.odds(0, 0, 99, 0), 9);
        due("below of the other one, 9 of 100", x.odds(0, 0, 99, 1), 100);
        due("above of the other one, 8 of 96", x.odds(0, 0, 95, 0), 1);
        due("below of the other one, 8 of 96", x.odds(0, 0, 95, 1), 12);
        due("above of the other one, 8 of 98", x.odds(0, 1, 98, 0), 4);
        due("below of the other one, 8 of 98", x.odds(0, 1, 98, 1), 49);
    }

    /** Lowest terms of none and of all. */
    private static void oddsOfNeverAndAlways() {
        OneTooFew x = Check.told("inn 9;faint 0 1 0 0;plain 0 1 0 0");
        for (int b = 0; b <= 99; b++) {
            due("never, above", x.odds(0, 0, b, 0), 0);
            due("never, below", x.odds(0, 0, b, 1), 1);
            due("always, above", x.odds(1, 0, b, 0), 1);
            due("always, below", x.odds(1, 0, b, 1), 1);
        }
    }

    /** Promise 15: "UNKNOWN; OUTSIDE.", part 0 and 1. */
    private static void oddsHaveTwoParts() {
        OneTooFew x = someInn();
        dueOutside("part", part -> x.odds(0, 0, 9, part), WRONG_EITHER);
        int[] nobody = {-1, 4, 5, 6, 32, Integer.MAX_VALUE, Integer.MIN_VALUE};
        for (int guest : nobody) {
            due("odds of guest " + guest, x.odds(guest, 0, 9, 0), UNKNOWN);
            due("surest of guest " + guest, x.surest(guest, 0, 9, 0), UNKNOWN);
            due("plot on guest " + guest, x.plot(guest, 0, 9, 0), UNKNOWN);
            due("seen guest " + guest, x.seen(guest, 0), UNKNOWN);
        }
        dueInside("the last guest's odds", x.odds(3, 0, 9, 0));
        dueInside("the last guest's surest", x.surest(3, 0, 9, 0));
        dueInside("a plot on the last guest", x.plot(3, 0, 9, 0));
        dueInside("the last guest seen", x.seen(3, 0));
    }

    private static void surest(OneTooFew x, int guest, int a, int b, int... want) {
        for (int what = 0; what < 3; what++) {
            String asked = "surest of " + guest + ", " + a + " to " + b + ", what " + what;
            due(asked, x.surest(guest, a, b, what), want[what]);
        }
    }

    /** "of several the least PACE, then WAY". */
    private static void surestIsTheLeastPaceThenWay() {
        OneTooFew x = Check.told("inn 12;plain 2 3 1 0;faint 5 2 1 0");
        surest(x, 0, 0, 99, 0, 0, 100);
        surest(x, 0, 7, 7, 0, 0, 1);
        surest(x, 1, 0, 99, 0, 0, 0);
        x = Check.told("inn 12;chair 0;plain 2 3 1 0");
        surest(x, 0, 0, 99, 0, 0, 0);
        // At 6 he comes nearer by both ways alike: at minute 1 he must come to 2 or less, by pace 3 only to 3.
        x = Check.told("inn 12;chair 0;plain 3 0 0 0;plain 6 0 0 0");
        surest(x, 1, 1, 1, 0, 0, 1);
        // At minute 2 pace 2 brings him to 10 or 2: the way on goes first.
        surest(x, 1, 2, 2, 2, 0, 0);
        // At minute 4 pace 1 brings him to 10 or 2 as well.
        surest(x, 1, 4, 4, 1, 0, 0);
        // At minute 0 no pace brings him nearer.
        surest(x, 1, 0, 0, 0, 0, 1);
    }

    /** "PACE (0 .. 3) and WAY": each of them may be the one. */
    private static void surestMayBeAnyOfTheEight() {
        OneTooFew x = Check.told("inn 12;chair 0;plain 2 0 0 0;plain 4 0 0 0");
        surest(x, 1, 1, 1, 3, 1, 0);
        x = Check.told("inn 12;chair 0;plain 2 0 0 0;plain 8 0 0 0");
        surest(x, 1, 1, 1, 3, 0, 0);
        x = Check.told("inn 12;chair 0;plain 2 0 0 0;plain 3 0 0 0");
        surest(x, 1, 1, 1, 2, 1, 0);
        x = Check.told("inn 12;chair 0;plain 2 0 0 0;plain 9 0 0 0");
        surest(x, 1, 1, 1, 2, 0, 0);
        x = Check.told("inn 12;chair 0;plain 2 0 0 0;plain 2 0 0 0");
        surest(x, 1, 1, 1, 1, 1, 0);
        x = Check.told("inn 12;chair 0;plain 2 0 0 0;plain 10 0 0 0");
        surest(x, 1, 1, 1, 1, 0, 0);
        x = Check.told("inn 12;chair 0;plain 2 0 0 0;plain 1 0 0 0");
        surest(x, 1, 1, 1, 0, 0, 0);
        // Over minutes 1 and 2: by pace 3 back he is at 1, then at 10; by 2 back at 2, then at 0.
        x = Check.told("inn 12;chair 0;plain 2 0 0 0;plain 4 0 0 0");
        surest(x, 1, 1, 2, 2, 1, 1);
        surest(x, 1, 1, 1, 3, 1, 0);
        // Without chairs he is STANDING in all minutes, whatever was found ahead of it.
        Check.write(x, "take 0");
        x.inn();
        surest(x, 1, 0, 99, 0, 0, 100);
    }

    /** "all else as told": the others walk as told, and he is where he was told to be. */
    private static void surestLeavesAllElseAsTold() {
        // Guest 0 comes to the chair at minute 1 as told; if he stood still, guest 1 would have it by pace 1 back.
        OneTooFew x = Check.told("inn 12;chair 0;plain 3 3 1 0;plain 2 0 0 0");
        surest(x, 1, 1, 1, 0, 0, 1);
        surest(x, 1, 0, 0, 0, 0, 0);
        // Guest 0 has gone to 6 at minute 3, so that guest 1 sits as he is.
        surest(x, 1, 3, 3, 0, 0, 0);
        // For guest 0 it is enough to be as near as guest 1, as told at 2.
        surest(x, 0, 1, 1, 1, 1, 0);
    }

    /** Promise 16: "PACE (what 0), WAY (1), in how many MINUTES (2)." */
    private static void surestTellsThreeThings() {
        OneTooFew x = someInn();
        int[] wrong = {-1, 3, 4, 100, Integer.MAX_VALUE, Integer.MIN_VALUE};
        dueOutside("surest what", what -> x.surest(0, 0, 9, what), wrong);
        for (int what = 0; what < 3; what++) {
            dueInside("surest what " + what, x.surest(0, 0, 9, what));
        }
    }

    private static void still(OneTooFew x, int a, int b, int number, int first) {
        due("still rows, " + a + " to " + b, x.still(a, b, 0), number);
        due("still first, " + a + " to " + b, x.still(a, b, 1), first);
    }

    /** "rows of PACES (0 or 1, for each GUEST ..)": from one row for nobody to 64 for six. */
    private static void stillCountsRows() {
        still(new OneTooFew(), 0, 99, 1, 0);
        for (int guests = 1; guests <= 6; guests++) {
            still(Check.told("inn 9" + ";faint 3 1 0 0".repeat(guests)), 0, 99, 1 << guests, 0);
            still(Check.told("inn 9" + ";stout 3 1 0 0".repeat(guests)), 0, 99, 1 << guests, 0);
        }
        // At minute 0 nobody has walked: no row is better than another for anybody.
        still(Check.told("inn 9;chair 0;plain 3 1 0 0;plain 4 1 0 0"), 0, 0, 4, 0);
    }

    /** "the first (by bits, GUEST 0's the lowest)". */
    private static void stillTellsTheFirstByBits() {
        // Guest 0 walks by 1, 0, 1 from the chair, or stays 2 from it; guest 1 by 2, 1, 0, or 1 from it: both walk.
        still(Check.told("inn 4;chair 0;plain 2 0 0 0;plain 1 0 0 0"), 1, 3, 1, 3);
        // At minute 1 guest 0 has the chair if he walks, whatever guest 1 does.
        still(Check.told("inn 4;chair 0;plain 2 0 0 0;plain 1 0 0 0"), 1, 1, 2, 1);
        // At minute 1 guest 1 has it if he walks, whatever guest 0 does.
        still(Check.told("inn 4;chair 0;plain 2 0 0 0;plain 1 0 1 0"), 1, 1, 2, 2);
        // Guest 0 is on the chair and stays there; guest 1 stands in all minutes by both.
        still(Check.told("inn 4;chair 0;plain 0 0 0 0;plain 2 0 0 0"), 1, 3, 2, 0);
    }

    /** Promise 17: "the first (1; NONE)". */
    private static void stillMayFindNone() {
        // Guest 0 wants to walk as guest 1 does, guest 1 wants not to.
        still(Check.told("inn 4;chair 0;plain 1 0 0 0;plain 1 0 0 0"), 1, 3, 0, NONE);
        OneTooFew x = someInn();
        dueOutside("still what", what -> x.still(0, 9, what), WRONG_EITHER);
    }

    /** "WAYS as told": paces as told are not looked at, ways are. */
    private static void stillIsByWaysAsToldNotPaces() {
        for (int pace = 0; pace <= 3; pace++) {
            String paces = " " + pace + " ";
            still(Check.told("inn 4;chair 0;plain 2" + paces + "0 0;plain 1 3 0 0"), 1, 1, 2, 1);
            still(Check.told("inn 4;chair 0;plain 2" + paces + "0 0;plain 1 3 1 0"), 1, 1, 2, 2);
        }
    }

    private static void plot(OneTooFew x, int guest, int friends, int t, int number, int set) {
        due("plot on " + guest + " by " + friends + " at " + t, x.plot(guest, friends, t, 0), number);
        due("plot's set on " + guest + " by " + friends + " at " + t, x.plot(guest, friends, t, 1), set);
    }

    /** "of whom some stand still": the fewest may be nobody, for he is STANDING without. */
    private static void plotMayNeedNobody() {
        OneTooFew x = Check.told("inn 9;chair 0;plain 4 0 0 0;plain 0 0 0 0;plain 0 0 0 0");
        plot(x, 0, 0, 0, 0, 0);
        plot(x, 0, 6, 99, 0, 0);
        plot(x, 2, 3, 0, 0, 0);
        plot(Check.told("inn 9;plain 0 0 0 0"), 0, 0, 0, 0, 0);
    }

    /** "the fewest of them by whom a told one is STANDING at t": it may be all. */
    private static void plotMayNeedAll() {
        // At minute 1 guests 1 and 2 are 3 away from the chairs at which they begin, guest 0 is 1 from one.
        OneTooFew x = Check.told("inn 9;chair 1;chair 2;plain 0 0 0 0;plain 1 3 0 0;plain 2 3 0 0");
        plot(x, 0, 6, 1, 2, 6);
        plot(x, 0, 2, 1, NONE, NONE);
        plot(x, 0, 4, 1, NONE, NONE);
        // At minute 0 they are there without a sign, and at 3 they are there again.
        plot(x, 0, 6, 0, 0, 0);
        plot(x, 0, 6, 3, 0, 0);
        x = Check.told("inn 8;chair 0;chair 1;chair 2;chair 3;chair 4;sly 6 0 0 0;plain 0 1 0 0;plain 1 1 0 0;"
            + "plain 2 2 0 0;plain 3 3 1 0");
        Check.write(x, "plain 4 2 1 0");
        x.inn();
        plot(x, 0, 62, 2, 5, 62);
        plot(x, 0, 60, 2, NONE, NONE);
        plot(x, 0, 30, 2, NONE, NONE);
    }

    /** "of several sets the least". */
    private static void plotTellsTheLeastOfSeveral() {
        // Each one of guests 1 to 3 is enough, by whichever guest 0 is kept from the chair.
        OneTooFew x = Check.told("inn 9;chair 0;plain 1 0 0 0;plain 0 3 0 0;plain 0 3 0 0;plain 0 3 0 0");
        plot(x, 0, 14, 1, 1, 2);
        plot(x, 0, 12, 1, 1, 4);
        plot(x, 0, 8, 1, 1, 8);
        plot(x, 0, 0, 1, NONE, NONE);
        // Guest 0 and the last one are friends like any other.
        x = Check.told("inn 9;chair 0;plain 0 3 0 0;plain 1 0 0 0;plain 0 3 0 0;plain 4 0 0 0;plain 4 0 0 0;"
            + "plain 0 3 0 0");
        plot(x, 1, 61, 1, 1, 1);
        plot(x, 1, 60, 1, 1, 4);
        plot(x, 1, 56, 1, 1, 32);
        plot(x, 1, 24, 1, NONE, NONE);
        // The fewest go ahead of the least: guest 3 alone is enough, or guests 1 and 2 both.
        x = Check.told("inn 9;chair 1;chair 2;plain 0 0 0 0;plain 1 3 0 0;plain 2 3 0 0;stout 1 3 0 0");
        plot(x, 0, 14, 1, 1, 8);
        plot(x, 0, 6, 1, 2, 6);
    }

    /** "none", and promise 18: "NONE". */
    private static void plotMayFindNone() {
        OneTooFew x = Check.told("inn 9;chair 0;plain 0 0 0 0;plain 4 3 0 0;faint 3 1 0 0");
        plot(x, 0, 6, 5, NONE, NONE);
        // A faint one is never STANDING.
        plot(x, 2, 3, 5, NONE, NONE);
        // Nor does a faint friend keep anybody from a chair.
        x = Check.told("inn 9;chair 0;plain 1 0 0 0;faint 0 3 0 0");
        plot(x, 0, 2, 1, NONE, NONE);
    }

    /** Promise 18: "UNKNOWN (GUEST, set; he is one of it)". */
    private static void plotsSetIsOfGuestsWithoutHim() {
        for (int guests = 1; guests <= 6; guests++) {
            OneTooFew x = Check.told("inn 9" + ";plain 0 0 0 0".repeat(guests));
            int all = (1 << guests) - 1;
            for (int guest = 0; guest < guests; guest++) {
                due("all others are a set", x.plot(guest, all & ~(1 << guest), 0, 0), 0);
                due("with him it is none", x.plot(guest, all, 0, 0), UNKNOWN);
                due("he alone is none", x.plot(guest, 1 << guest, 0, 0), UNKNOWN);
                due("one who is not there", x.plot(guest, 1 << guests, 0, 0), UNKNOWN);
                due("the highest bit", x.plot(guest, Integer.MIN_VALUE, 0, 0), UNKNOWN);
                due("below 0", x.plot(guest, -1, 0, 0), UNKNOWN);
                due("below 0 without him", x.plot(guest, ~(1 << guest), 0, 0), UNKNOWN);
                due("nobody is a set", x.plot(guest, 0, 0, 1), 0);
            }
        }
        OneTooFew x = someInn();
        dueOutside("plot what", what -> x.plot(0, 2, 5, what), WRONG_EITHER);
    }

    private static void price(String text, int want) {
        due("price of " + text, Check.told(text).price(0), want);
    }

    /** "the greatest WORTH of those that are STANDING". */
    private static void priceIsTheGreatestWorthStanding() {
        price("inn 9;chair 0;chair 1;stout 0 0 0 99;plain 4 0 0 3", 3);
        price("inn 9;chair 0;chair 1;stout 0 0 0 99;plain 4 0 0 3;plain 4 0 0 8;plain 4 0 0 5", 8);
        price("inn 9;chair 0;chair 1;chair 4;stout 0 0 0 99;plain 4 0 0 98;plain 4 0 0 2;faint 4 0 0 97", 2);
        price("inn 9;chair 0;chair 1;stout 0 0 0 1;plain 4 0 0 99", 99);
        price("inn 9;chair 0;chair 1;stout 0 0 0 1;stout 0 0 0 7", 7);
        price("inn 9;chair 0;chair 1;plain 4 0 0 6;stout 0 0 0 1", 6);
        price("inn 9;chair 0;chair 1;plain 4 0 0 6;plain 4 0 0 5;plain 4 0 0 4;plain 4 0 0 3;plain 4 0 0 7;"
            + "stout 0 0 0 1", 7);
        price("inn 9;chair 0;chair 1;chair 2;stout 0 0 0 1;stout 0 0 0 7;sly 4 0 0 6", 7);
        price("inn 9;chair 0;chair 1;chair 2;stout 0 0 0 1;stout 0 0 0 7;plain 4 0 0 6", 6);
    }

    /** "if one has it and some are STANDING .. else 0". */
    private static void priceIsElseZero() {
        due("without guests", new OneTooFew().price(99), 0);
        price("inn 9;chair 0;chair 1;stout 0 0 0 5", 0);
        price("inn 9;chair 0;chair 1;stout 0 0 0 5;faint 4 0 0 9", 0);
        price("inn 9;chair 0;stout 0 0 0 5;plain 4 0 0 9", 0);
        price("inn 9;chair 0;chair 1;plain 0 0 0 5;plain 1 0 0 9;plain 4 0 0 9", 0);
        price("inn 9;stout 0 0 0 5;plain 4 0 0 9", 0);
        price("inn 9;chair 0;chair 1;stout 0 0 0 5;plain 4 0 0 0", 0);
        // He had a second one at minute 0 alone: the next call is not to know of it.
        OneTooFew x = Check.told("inn 9;chair 0;chair 1;stout 0 3 0 5;plain 8 1 0 7;plain 7 1 0 8");
        due("at minute 0", x.price(0), 8);
        due("at minute 1", x.price(1), 0);
        due("at minute 9", x.price(9), 8);
    }

    /** "of all sets of c CHAIRS (c 0 .. 12, p at most)", and promise 20: "OUTSIDE: c, too." */
    private static void laidTakesNoneToAllPlaces() {
        for (int p = 3; p <= 12; p++) {
            OneTooFew x = Check.told("inn " + p + ";chair 1;plain 0 1 0 0;plain 1 0 0 0");
            for (int c = 0; c <= p; c++) {
                int set = x.laid(c, 0, 9, 1);
                due("so many chairs, " + c + " of " + p, Integer.bitCount(set), c);
                CHECK.holds("at places that there are", set >= 0 && set < 1 << p);
            }
            due("none", x.laid(0, 0, 9, 1), 0);
            due("all", x.laid(p, 0, 9, 1), (1 << p) - 1);
            int[] wrong = {-1, p + 1, 13, 32, Integer.MAX_VALUE, Integer.MIN_VALUE};
            dueOutside("chairs", c -> x.laid(c, 0, 9, 1), wrong);
        }
        OneTooFew x = someInn();
        dueOutside("laid what", what -> x.laid(2, 0, 9, what), WRONG_EITHER);
    }

    /** Promise 20: "0 without GUESTS". */
    private static void laidWithoutGuestsIsZero() {
        for (int p = 3; p <= 12; p++) {
            OneTooFew x = Check.told("inn " + p);
            for (int c = 0; c <= p; c++) {
                due("apart without guests", x.laid(c, 0, 99, 0), 0);
                due("the least set of all", x.laid(c, 0, 99, 1), (1 << c) - 1);
            }
        }
    }

    /** "of several the least set". */
    private static void laidIsTheLeastSetOfSeveral() {
        OneTooFew x = Check.told("inn 12;plain 7 1 0 0");
        for (int c = 0; c <= 12; c++) {
            due("one guest is never apart", x.laid(c, 0, 99, 0), 0);
            due("one guest, the least set", x.laid(c, 0, 99, 1), (1 << c) - 1);
        }
        // One always has the only chair, whichever it is.
        x = Check.told("inn 4;chair 3;plain 0 0 0 0;plain 2 0 0 0");
        due("always apart", x.laid(1, 5, 14, 0), 10);
        due("the least set", x.laid(1, 5, 14, 1), 1);
        // By chairs at 0 and another place the stout one has both; by those at 1 and 2 the other one sits first.
        x = Check.told("inn 6;stout 0 0 0 1;plain 1 0 0 1");
        due("a later set that is less apart", x.laid(2, 0, 0, 1), 6);
        due("not apart", x.laid(2, 0, 0, 0), 0);
        // Guest 1 is at 3, then at 2: by the chair at 3 alone, the last of four, each one sits once.
        x = Check.told("inn 4;plain 0 0 0 0;plain 0 1 1 0");
        due("the last place", x.laid(1, 1, 2, 1), 8);
        due("not apart by it", x.laid(1, 1, 2, 0), 0);
    }

    /** "the GUEST that is STANDING in most MINUTES of a to b and the one in fewest are least apart". */
    private static void laidIsHowFarApart() {
        OneTooFew x = Check.told("inn 4;plain 0 0 0 1;faint 2 0 0 1");
        due("of one minute", x.laid(0, 99, 99, 0), 1);
        due("of all minutes", x.laid(0, 0, 99, 0), 100);
        due("of all minutes, the set", x.laid(0, 0, 99, 1), 0);
        due("with a chair not at all", x.laid(1, 0, 99, 0), 0);
        x = Check.told("inn 4;plain 0 0 0 1;plain 2 0 0 1;plain 1 0 0 1");
        due("no chairs, all alike", x.laid(0, 0, 99, 0), 0);
        due("one chair, one sits always", x.laid(1, 0, 99, 0), 100);
        due("one chair, the least set", x.laid(1, 0, 99, 1), 1);
        due("two chairs, two sit always", x.laid(2, 0, 99, 0), 100);
        due("three chairs, all sit", x.laid(3, 0, 99, 0), 0);
    }

    private static void left(String text, int t, int who, int stops) {
        OneTooFew x = Check.told(text);
        due("left at " + t + " of " + text, x.left(t, 0), who);
        due("stops at " + t + " of " + text, x.left(t, 1), stops);
    }

    /** "till one GUEST at most is left": at the begin, too. */
    private static void leftWithOneGuestAtMost() {
        left("inn 9", 0, 0, 0);
        left("inn 9;chair 0", 99, 0, 0);
        left("inn 9;plain 0 0 0 0", 0, 1, 0);
        left("inn 9;chair 0;stout 0 0 0 0", 99, 1, 0);
        left("inn 9;faint 0 0 0 0", 0, 1, 0);
        OneTooFew x = someInn();
        dueOutside("left what", what -> x.left(5, what), WRONG_EITHER);
    }

    /** "or nobody went out". */
    private static void leftTillNobodyWentOut() {
        left("inn 9;faint 0 0 0 0;faint 0 0 0 0", 0, 3, 1);
        left("inn 9;chair 0;chair 1;plain 0 0 0 0;plain 1 0 0 0", 5, 3, 1);
        left("inn 9;chair 0;faint 0 0 0 0;plain 1 0 0 0", 5, 3, 1);
        left("inn 9;faint 0 0 0 0;faint 1 0 0 0;plain 1 0 0 0", 5, 3, 2);
        left("inn 9;chair 0;faint 0 0 0 0;faint 1 0 0 0;plain 1 0 0 0;plain 1 0 0 0", 5, 3, 3);
    }

    /** "till one GUEST at most is left": it may be none. */
    private static void leftTillOneAtMostIsLeft() {
        left("inn 9;plain 0 0 0 0;plain 0 0 0 0", 0, 0, 1);
        left("inn 9" + ";stout 0 0 0 0".repeat(6), 0, 0, 1);
        left("inn 9;chair 0;plain 0 0 0 0;plain 0 0 0 0", 0, 1, 1);
        left("inn 9;faint 0 0 0 0;plain 0 0 0 0", 0, 1, 1);
        left("inn 9;chair 0;chair 1;plain 0 0 0 0;plain 0 0 0 0;plain 0 0 0 0", 0, 1, 2);
        left("inn 9;chair 0;chair 1;chair 2;chair 3;chair 4" + ";plain 4 0 0 0".repeat(6), 0, 1, 5);
        // Both chairs are the stout one's, and the others go out at once.
        left("inn 9;chair 0;chair 1;stout 0 0 0 0;plain 0 0 0 0;plain 0 0 0 0", 0, 1, 1);
    }

    /** "the CHAIR at the least PLACE goes". */
    private static void theChairAtTheLeastPlaceGoes() {
        left("inn 9;chair 0;chair 4;plain 0 0 0 0;plain 4 0 0 0;plain 2 0 0 0", 0, 2, 2);
        left("inn 9;chair 4;chair 8;plain 4 0 0 0;plain 8 0 0 0;plain 1 0 0 0", 0, 2, 2);
        left("inn 12;chair 11;chair 10;chair 0;plain 0 0 0 0;plain 10 0 0 0;plain 11 0 0 0;plain 5 0 0 0", 0, 4, 3);
        // The stout one has the chairs at 0 and 1, then the one at 1 alone: nobody goes out any more.
        left("inn 9;chair 0;chair 1;chair 5;stout 0 0 0 0;plain 5 0 0 0;plain 6 0 0 0", 0, 3, 2);
    }

    /** "those left begin anew": from their places at first, and they walk t minutes again. */
    private static void thoseLeftBeginAnew() {
        // At minute 2 they are at 2, 4 and 0. Guest 2 goes out, and the chair at 2; from 2 it is 3 to the one at 5,
        // from 4 it is 1. Had they begun at their chairs and walked on, guest 0 would be at 4 and guest 1 at 7.
        left("inn 9;chair 2;chair 5;plain 0 1 0 0;plain 2 1 0 0;plain 7 1 0 0", 2, 2, 2);
        // At minute 3 they are at 3, 6 and 0 each time. If they did not walk again, guest 0 would be nearer to 7.
        left("inn 9;chair 3;chair 7;plain 0 1 0 0;plain 3 1 0 0;plain 6 1 0 0", 3, 2, 2);
        OneTooFew x = Check.told("inn 9;chair 3;chair 7;plain 0 1 0 0;plain 3 1 0 0;plain 6 1 0 0");
        x.left(3, 0);
        due("chairs stay as told", x.count(2), 136);
        due("guests stay as told", x.count(1), 3);
        due("foretold as told", x.standing(3), 4);
    }

    /** "SEEN, 6 at most", and promise 22: "OUTSIDE (stood 0, 1); FULL." */
    private static void seenAreSixAtMost() {
        OneTooFew x = someInn();
        for (int number = 1; number <= 6; number++) {
            due("seen", x.seen(0, 0), number);
            due("seen by count", x.count(6), number);
        }
        due("a seventh", x.seen(0, 0), FULL);
        due("six", x.count(6), 6);
        due("wrong ahead of full", x.seen(0, 2), OUTSIDE);
        due("unknown ahead of full", x.seen(4, 0), UNKNOWN);
        x.forget();
        due("behind forget there is room", x.seen(0, 0), 1);
        dueOutside("stood", stood -> x.seen(0, stood), WRONG_EITHER);
        due("nothing came of those", x.count(6), 1);
        OneTooFew nobody = new OneTooFew();
        due("without guests", nobody.seen(0, 0), UNKNOWN);
    }

    /** Promise 23: "SEEN is nothing: how many there were." */
    private static void forgetTellsHowMany() {
        for (int number = 0; number <= 6; number++) {
            OneTooFew x = Check.told("inn 9;faint 0 0 0 0");
            for (int i = 0; i < number; i++) {
                x.seen(0, 1);
            }
            due("none fits but for nothing seen", x.fits(0), number == 0 ? 100 : 0);
            due("forgotten", x.forget(), number);
            due("nothing is seen", x.count(6), 0);
            due("all fits", x.fits(0), 100);
            due("nothing to forget", x.forget(), 0);
        }
    }

    /** "how many MINUTES 0 .. 99 by which all is so, the first". */
    private static void fitsAreOfMinutesZeroToNinetyNine() {
        for (int p = 3; p <= 12; p++) {
            for (int first = 0; first < p; first++) {
                // Guest 1 sits only when he is at the chair, for guest 0 is one place from it.
                OneTooFew x = Check.told("inn " + p + ";chair 0;plain 1 0 0 0;plain " + (p - first) % p + " 1 0 0");
                due("all fit", x.fits(0), 100);
                due("the first of all", x.fits(1), 0);
                x.seen(1, 0);
                int minutes = 0;
                for (int t = first; t <= 99; t += p) {
                    minutes++;
                }
                due("minutes of " + p + " from " + first, x.fits(0), minutes);
                due("the first of " + p + " from " + first, x.fits(1), first);
                x.forget();
                x.seen(1, 1);
                due("the others of " + p + " from " + first, x.fits(0), 100 - minutes);
                due("the first of the others", x.fits(1), first == 0 ? 1 : 0);
            }
        }
        due("without guests all fit", new OneTooFew().fits(0), 100);
        due("without guests the first", new OneTooFew().fits(1), 0);
        OneTooFew x = someInn();
        dueOutside("fits what", x::fits, WRONG_EITHER);
    }

    /** Promise 24: "the first (1; NONE)"; "by which all is so": one that is not so is enough. */
    private static void fitsMayFindNone() {
        OneTooFew x = Check.told("inn 9;chair 0;plain 0 0 0 0;plain 3 0 0 0;faint 3 0 0 0");
        int[][] so = {{0, 0}, {1, 1}, {2, 0}};
        for (int[] one : so) {
            x.seen(one[0], one[1]);
            due("it is so", x.fits(0), 100);
        }
        int[][] notSo = {{0, 1}, {1, 0}, {2, 1}};
        for (int[] one : notSo) {
            x.forget();
            x.seen(0, 0);
            x.seen(one[0], one[1]);
            x.seen(1, 1);
            due("it is not so", x.fits(0), 0);
            due("there is no first", x.fits(1), NONE);
        }
    }

    /** Promise 25: "0 PLACES, .. 7 bytes of THE TEXT. OUTSIDE." */
    private static void countTellsEightThings() {
        OneTooFew x = Check.told("inn 12;chair 11;chair 0;plain 0 0 0 0;plain 11 0 0 0;sly 6 0 0 0");
        x.walk(99);
        x.seen(0, 0);
        Check.write(x, "abcde");
        int[] playing = {12, 3, 2049, 99, 1, 0, 1, 5};
        int[] stopped = {12, 3, 2049, 99, 0, 4, 1, 5};
        for (int what = 0; what < 8; what++) {
            due("while it plays, what " + what, x.count(what), playing[what]);
        }
        x.stop();
        for (int what = 0; what < 8; what++) {
            due("while it has stopped, what " + what, x.count(what), stopped[what]);
        }
        x.play();
        for (int what = 0; what < 8; what++) {
            due("when it plays again, what " + what, x.count(what), playing[what]);
        }
        int[] wrong = {-1, 8, 9, 100, Integer.MAX_VALUE, Integer.MIN_VALUE};
        dueOutside("count", x::count, wrong);
    }
}
