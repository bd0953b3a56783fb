import java.util.Arrays;

/** The edges of promises 6 to 13 and of what the document says of minutes and stops: a part for each sentence. */
public final class EveningEdgesTest {
    private static final int NONE = -1, UNKNOWN = -2, OUTSIDE = -3, NOT = -4, FULL = -5;
    private static final String[] KINDS = {"plain", "sly", "faint", "stout"};
    private static final Check CHECK = new Check("edges of an evening");

    public static void main(String[] args) {
        guestsWalkRoundTheRing();
        twoMayBeAtOnePlace();
        walkTakesOneToNinetyNine();
        minutesAreAtMost9999();
        walkIsNotNowBehindAStop();
        effortIsByTheShorterWay();
        effortOfASlyOneIsLessByOne();
        ofSeveralTheLeastGuest();
        thenTheLeastPlace();
        theLeastEffortGoesFirst();
        pairsAreMadeAgainAndAgain();
        aStoutOneTakesASecondChair();
        aStoutOnesSecondIsNearestToHisFirst();
        aStoutOneTakesItAheadOfTheOthers();
        faintOnesSitOnWhatIsLeft();
        whoSitsIsAtHisFirstChair();
        standingAreAllThatDoNotSit();
        aStopWithoutChairsOrGuests();
        whoStandsPays();
        sharesAreCut();
        nobodyStandsNobodyPays();
        stopIsNotNowBehindAStop();
        playGetsAllUpWhereTheyAre();
        playIsNotNowWhileItPlays();
        kindsAreOverOneAnother();
        asTellsEffortFromWhereHeIs();
        asNoneWithoutChairs();
        placeTellsThreeThings();
        guestTellsSevenThings();
        keepHasTwo();
        backBringsAllBack();
        backIsNotNowBehindAText();
        backLeavesTextAndSeen();
        CHECK.end();
    }

    private static void due(String what, long got, long want) {
        CHECK.due(what, got, want);
    }

    /** An object at its first stop. */
    private static OneTooFew stopped(String text) {
        OneTooFew x = Check.told(text);
        x.stop();
        return x;
    }

    private static void standing(String text, int want) {
        due("standing of " + text, Check.told(text).stop(), want);
    }

    /** Where each guest sits at the first stop. */
    private static void seats(String text, int... want) {
        OneTooFew x = stopped(text);
        for (int guest = 0; guest < want.length; guest++) {
            due("seat of guest " + guest + " of " + text, x.guest(guest, 5), want[guest]);
        }
    }

    /** Who sits at each place at the first stop. */
    private static void holders(String text, int... want) {
        OneTooFew x = stopped(text);
        for (int place = 0; place < want.length; place++) {
            due("who sits at " + place + " of " + text, x.place(place, 1), want[place]);
        }
    }

    /** "each GUEST walks as many PLACES as his PACE, by his WAY"; "0 ON .. behind the last one 0; 1 BACK". */
    private static void guestsWalkRoundTheRing() {
        for (int p = 3; p <= 12; p++) {
            for (int pace = 0; pace <= 3; pace++) {
                OneTooFew x = Check.told("inn " + p + ";plain 0 " + pace + " 0 0;sly 0 " + pace + " 1 0;faint "
                    + (p - 1) + " " + pace + " 0 0;stout " + (p - 1) + " " + pace + " 1 0");
                int up = 0;
                int down = 0;
                for (int minute = 1; minute <= 2 * p; minute++) {
                    due("minutes", x.walk(1), minute);
                    for (int step = 0; step < pace; step++) {
                        up = up == p - 1 ? 0 : up + 1;
                        down = down == 0 ? p - 1 : down - 1;
                    }
                    String when = " of " + p + " by pace " + pace + " after " + minute;
                    due("on from 0" + when, x.guest(0, 1), up);
                    due("back from 0" + when, x.guest(1, 1), down);
                    due("on from the last" + when, x.guest(2, 1), up == 0 ? p - 1 : up - 1);
                    due("back from the last" + when, x.guest(3, 1), down == 0 ? p - 1 : down - 1);
                }
            }
        }
        OneTooFew x = Check.told("inn 12;plain 11 3 0 0;plain 0 3 1 0;plain 11 1 0 0;plain 0 1 1 0");
        x.walk(99);
        due("297 on from 11", x.guest(0, 1), 8);
        due("297 back from 0", x.guest(1, 1), 3);
        due("99 on from 11", x.guest(2, 1), 2);
        due("99 back from 0", x.guest(3, 1), 9);
    }

    /** "(two may be at one PLACE)", and promise 6: "GUESTS that are there (2, by bits)". */
    private static void twoMayBeAtOnePlace() {
        OneTooFew x = Check.told("inn 12;plain 11 0 0 0;sly 11 0 0 0;faint 11 0 0 0;stout 11 0 0 0;plain 11 0 0 0;"
            + "plain 10 1 0 0");
        due("five are there", x.place(11, 2), 31);
        due("one is ahead of it", x.place(10, 2), 32);
        x.walk(1);
        due("all six are there", x.place(11, 2), 63);
        due("nobody is ahead of it", x.place(10, 2), 0);
        x.walk(1);
        due("one went behind the last place", x.place(0, 2), 32);
        due("five are there again", x.place(11, 2), 31);
    }

    /** Promise 9: "n MINUTES (1 .. 99) are walked: how many in all. OUTSIDE". */
    private static void walkTakesOneToNinetyNine() {
        int[] wrong = {0, 100, -1, -99, 101, 9999, 10000, Integer.MAX_VALUE, Integer.MIN_VALUE};
        for (int n : wrong) {
            OneTooFew x = Check.told("inn 5;plain 0 1 0 0");
            x.walk(7);
            due("walk " + n, x.walk(n), OUTSIDE);
            due("no minute by walk " + n, x.count(3), 7);
            due("no place by walk " + n, x.guest(0, 1), 2);
        }
        for (int n = 1; n <= 99; n++) {
            OneTooFew x = Check.told("inn 5;plain 0 1 0 0");
            x.walk(7);
            due("walk " + n, x.walk(n), 7 + n);
            due("places by walk " + n, x.guest(0, 1), (7 + n) % 5);
        }
        due("without guests", new OneTooFew().walk(99), 99);
    }

    private static OneTooFew atMinute(int minute) {
        OneTooFew x = Check.told("inn 7;chair 0;plain 0 1 0 0");
        for (int gone = 0; gone < minute; gone += 99) {
            x.walk(Math.min(99, minute - gone));
        }
        return x;
    }

    /** Promise 9: "FULL: above 9999 in all." */
    private static void minutesAreAtMost9999() {
        for (int n = 1; n <= 99; n++) {
            OneTooFew x = atMinute(9999 - n);
            due("as many as go to 9999", x.walk(n), 9999);
            due("one place after 9999 minutes", x.guest(0, 1), 9999 % 7);
            due("one more", x.walk(1), FULL);
            x = atMinute(10000 - n);
            due("one above 9999", x.walk(n), FULL);
            due("no minute of it", x.count(3), 10000 - n);
            due("no place of it", x.guest(0, 1), (10000 - n) % 7);
        }
        OneTooFew x = atMinute(9999);
        x.stop();
        due("play at 9999", x.play(), 9999);
        due("keep at 9999", x.keep(0), 9999);
        due("back to 9999", x.back(0), 9999);
        due("full still", x.walk(99), FULL);
        Check.write(x, "chair 1");
        x.inn();
        due("a text begins anew", x.walk(99), 99);
    }

    /** Promise 9: "NOT: it has stopped". */
    private static void walkIsNotNowBehindAStop() {
        OneTooFew x = stopped("inn 7;chair 0;plain 3 1 0 0");
        due("walk behind a stop", x.walk(1), NOT);
        due("no minute", x.count(3), 0);
        due("he sits still", x.guest(0, 5), 0);
        x.play();
        due("walk behind play", x.walk(1), 1);
        due("from the chair", x.guest(0, 1), 1);
    }

    /** "EFFORT is how many PLACES it is from him to the CHAIR, by the shorter way". */
    private static void effortIsByTheShorterWay() {
        for (int p = 3; p <= 12; p++) {
            for (int chair = 0; chair < p; chair++) {
                OneTooFew x = Check.told("inn " + p + ";chair " + chair + ";plain 0 1 0 0;stout 0 1 0 0;faint 0 1 0 0");
                for (int at = 0; at < p; at++) {
                    int up = chair >= at ? chair - at : chair - at + p;
                    int shorter = 100 + Math.min(up, p - up);
                    due("of " + p + " from " + at + " to " + chair, x.as(0, 0), shorter);
                    due("stout, of " + p + " from " + at + " to " + chair, x.as(1, 0), shorter);
                    due("faint, of " + p + " from " + at + " to " + chair, x.as(2, 0), shorter);
                    x.walk(1);
                }
            }
        }
        seats("inn 12;chair 11;chair 2;plain 0 0 0 0", 11);
        seats("inn 12;chair 0;chair 9;plain 11 0 0 0", 0);
        standing("inn 12;chair 0;plain 6 0 0 0;plain 7 0 0 0", 1);
        standing("inn 12;chair 0;plain 6 0 0 0;plain 5 0 0 0", 1);
        standing("inn 11;chair 0;plain 5 0 0 0;plain 6 0 0 0", 2);
        standing("inn 11;chair 0;plain 6 0 0 0;plain 5 0 0 0", 2);
    }

    /** "of a SLY one that less 1". */
    private static void effortOfASlyOneIsLessByOne() {
        for (int at = 0; at <= 6; at++) {
            OneTooFew x = Check.told("inn 12;chair 0;sly " + at + " 0 0 0");
            due("sly from " + at, x.as(0, 0), 99 + at);
        }
        standing("inn 8;chair 0;plain 0 0 0 0;sly 0 0 0 0", 1);
        standing("inn 8;chair 0;plain 0 0 0 0;sly 1 0 0 0", 2);
        standing("inn 8;chair 0;sly 1 0 0 0;plain 0 0 0 0", 2);
        standing("inn 8;chair 0;sly 2 0 0 0;plain 0 0 0 0", 1);
        standing("inn 8;chair 0;plain 3 0 0 0;sly 4 0 0 0", 2);
        standing("inn 8;chair 0;plain 4 0 0 0;sly 4 0 0 0", 1);
        standing("inn 8;chair 0;sly 1 0 0 0;sly 0 0 0 0", 1);
        standing("inn 8;chair 0;stout 4 0 0 0;sly 4 0 0 0", 1);
    }

    /** "of which EFFORT is least (of several the least GUEST". */
    private static void ofSeveralTheLeastGuest() {
        standing("inn 8;chair 4;plain 3 0 0 0;plain 5 0 0 0", 2);
        standing("inn 8;chair 4;plain 5 0 0 0;plain 3 0 0 0", 2);
        standing("inn 8;chair 4" + ";plain 4 0 0 0".repeat(6), 62);
        standing("inn 8;chair 0;stout 7 0 0 0;plain 1 0 0 0", 2);
        standing("inn 8;chair 0;plain 1 0 0 0;stout 7 0 0 0", 2);
        // Guest 1 has the lesser place at the same effort, but the lesser guest goes first.
        seats("inn 8;chair 1;chair 5;plain 6 0 0 0;plain 2 0 0 0", 5, 1);
        seats("inn 8;chair 1;chair 3;plain 2 0 0 0;plain 0 0 0 0", 1, 3);
    }

    /** "then the least PLACE)". */
    private static void thenTheLeastPlace() {
        seats("inn 8;chair 3;chair 5;plain 4 0 0 0", 3);
        seats("inn 8;chair 1;chair 7;plain 0 0 0 0", 1);
        seats("inn 8;chair 0;chair 6;plain 7 0 0 0", 0);
        seats("inn 12;chair 11;chair 3;sly 1 0 0 0", 3);
        seats("inn 12;chair 0;chair 10;faint 11 0 0 0", 0);
        seats("inn 3;chair 1;chair 2;plain 0 0 0 0;plain 0 0 0 0", 1, 2);
    }

    /** "those two are put together .. of which EFFORT is least". */
    private static void theLeastEffortGoesFirst() {
        standing("inn 8;chair 0;plain 2 0 0 0;plain 1 0 0 0", 1);
        standing("inn 8;chair 0;plain 2 0 0 0;plain 7 0 0 0", 1);
        standing("inn 8;chair 0;plain 4 0 0 0;plain 5 0 0 0;plain 6 0 0 0;plain 7 0 0 0;plain 3 0 0 0;plain 0 0 0 0",
            31);
        // Guest 1 is nearer to 2, so that guest 0 goes to 6, though it is farther.
        seats("inn 9;chair 2;chair 6;plain 0 0 0 0;plain 3 0 0 0", 6, 2);
    }

    /** "again and again": till no guest or no free chair is left. */
    private static void pairsAreMadeAgainAndAgain() {
        seats("inn 12;chair 0;chair 1;chair 2;chair 3;chair 4;plain 0 0 0 0;plain 0 0 0 0;plain 0 0 0 0;plain 0 0 0 0;"
            + "plain 0 0 0 0;plain 0 0 0 0", 0, 1, 2, 3, 4, NONE);
        seats("inn 12;chair 9;chair 10;chair 11;plain 0 0 0 0;plain 0 0 0 0", 11, 10);
        holders("inn 3;chair 0;chair 1;chair 2;plain 0 0 0 0", 0, NONE, NONE);
        holders("inn 3;chair 0;chair 1;chair 2;plain 0 0 0 0;plain 0 0 0 0;plain 0 0 0 0", 0, 1, 2);
        standing("inn 3;chair 0;chair 1;chair 2;plain 0 0 0 0;plain 0 0 0 0;plain 0 0 0 0;plain 0 0 0 0", 8);
    }

    /** "A STOUT one takes a second CHAIR then .. if there is one." */
    private static void aStoutOneTakesASecondChair() {
        holders("inn 4;chair 0;stout 0 0 0 0", 0, NONE, NONE, NONE);
        holders("inn 4;chair 0;chair 2;stout 0 0 0 0", 0, NONE, 0, NONE);
        holders("inn 4;chair 0;chair 1;chair 2;stout 0 0 0 0", 0, 0, NONE, NONE);
        holders("inn 4;chair 1;stout 0 0 0 0;plain 0 0 0 0", NONE, 0, NONE, NONE);
        holders("inn 4;chair 0;chair 1;plain 0 0 0 0;stout 1 0 0 0", 0, 1, NONE, NONE);
        holders("inn 4;chair 0;chair 1;stout 0 0 0 0;stout 0 0 0 0", 0, 0, NONE, NONE);
        holders("inn 4;chair 0;chair 1;chair 2;stout 0 0 0 0;stout 0 0 0 0", 0, 0, 1, NONE);
        holders("inn 4;chair 0;chair 1;chair 2;chair 3;stout 0 0 0 0;stout 0 0 0 0", 0, 0, 1, 1);
        holders("inn 4;chair 0;chair 1;chair 2;chair 3;stout 0 0 0 0;stout 0 0 0 0;stout 0 0 0 0", 0, 0, 1, 1);
        standing("inn 4;chair 0;chair 1;chair 2;chair 3;stout 0 0 0 0;stout 0 0 0 0;stout 0 0 0 0", 4);
    }

    /** "the FREE one nearest to his (of several the least PLACE)". */
    private static void aStoutOnesSecondIsNearestToHisFirst() {
        // He is at 3, his first chair at 5: 8 is nearer to that one, 0 is nearer to him.
        holders("inn 12;chair 0;chair 5;chair 8;stout 3 0 0 0", NONE, NONE, NONE, NONE, NONE, 0, NONE, NONE, 0);
        holders("inn 12;chair 3;chair 5;chair 7;stout 5 0 0 0", NONE, NONE, NONE, 0, NONE, 0, NONE, NONE);
        holders("inn 6;chair 0;chair 1;chair 5;stout 0 0 0 0", 0, 0, NONE, NONE, NONE, NONE);
        holders("inn 6;chair 0;chair 2;chair 5;stout 0 0 0 0", 0, NONE, NONE, NONE, NONE, 0);
        holders("inn 6;chair 0;chair 4;chair 5;stout 5 0 0 0", 0, NONE, NONE, NONE, NONE, 0);
        holders("inn 6;chair 1;chair 3;chair 5;stout 5 0 0 0", NONE, 0, NONE, NONE, NONE, 0);
        holders("inn 6;chair 0;chair 3;stout 0 0 0 0", 0, NONE, NONE, 0, NONE, NONE);
        // The nearest one to his is not free: he takes the next one.
        holders("inn 8;chair 0;chair 1;chair 4;plain 1 0 0 0;stout 7 0 0 0", 1, 0, NONE, NONE, 1);
    }

    /** "takes a second CHAIR then": ahead of the next pair, however near the next guest is. */
    private static void aStoutOneTakesItAheadOfTheOthers() {
        standing("inn 9;chair 3;chair 4;stout 3 0 0 0;plain 5 0 0 0", 2);
        standing("inn 9;chair 3;chair 4;stout 2 0 0 0;plain 5 0 0 0", 2);
        standing("inn 9;chair 3;chair 4;plain 5 0 0 0;stout 2 0 0 0", 0);
        standing("inn 9;chair 3;chair 4;stout 2 0 0 0;sly 5 0 0 0", 0);
        standing("inn 9;chair 3;chair 4;stout 3 0 0 0;plain 4 0 0 0", 2);
        standing("inn 9;chair 3;chair 4;plain 4 0 0 0;stout 3 0 0 0", 0);
    }

    /** "Then FAINT ones sit likewise on what is left." */
    private static void faintOnesSitOnWhatIsLeft() {
        seats("inn 8;chair 0;faint 0 0 0 0;plain 4 0 0 0", NONE, 0);
        seats("inn 8;chair 0;chair 4;faint 0 0 0 0;plain 3 0 0 0", 0, 4);
        seats("inn 8;chair 0;chair 4;faint 0 0 0 0;plain 1 0 0 0", 4, 0);
        seats("inn 8;chair 0;chair 4;faint 0 0 0 0;stout 4 0 0 0", NONE, 4);
        seats("inn 8;chair 0;chair 4;chair 7;faint 3 0 0 0;stout 0 0 0 0", 4, 0);
        // Likewise: least effort, then the least guest, then the least place.
        seats("inn 8;chair 2;faint 0 0 0 0;faint 3 0 0 0", NONE, 2);
        seats("inn 8;chair 2;faint 1 0 0 0;faint 3 0 0 0", 2, NONE);
        seats("inn 8;chair 1;chair 7;faint 0 0 0 0;faint 2 0 0 0", 1, 7);
        seats("inn 8;chair 1;chair 7;faint 0 0 0 0", 1);
        seats("inn 3;chair 0;chair 1;chair 2;faint 1 0 0 0;faint 1 0 0 0;faint 1 0 0 0;faint 1 0 0 0", 1, 0, 2, NONE);
    }

    /** "Who sits is at the PLACE of his (first) CHAIR then." */
    private static void whoSitsIsAtHisFirstChair() {
        OneTooFew x = stopped("inn 9;chair 0;chair 8;chair 4;stout 7 0 0 0;sly 5 0 0 0;plain 5 0 0 0;faint 2 0 0 0");
        due("stout sits", x.guest(0, 5), 8);
        due("stout is there", x.guest(0, 1), 8);
        due("stout on both", x.place(0, 1), 0);
        due("but he is not there", x.place(0, 2), 0);
        due("at his first", x.place(8, 2), 1);
        due("sly is at his chair", x.guest(1, 1), 4);
        due("plain is where he was", x.guest(2, 1), 5);
        due("faint is where he was", x.guest(3, 1), 2);
        x = stopped("inn 9;chair 0;faint 4 0 0 0");
        due("a faint one is at his chair", x.guest(0, 1), 0);
        due("nobody is where he was", x.place(4, 2), 0);
    }

    /** "STANDING are all that do not sit, but FAINT ones." */
    private static void standingAreAllThatDoNotSit() {
        standing("inn 5;plain 0 0 0 0;sly 0 0 0 0;faint 0 0 0 0;stout 0 0 0 0;faint 1 0 0 0;plain 1 0 0 0", 43);
        standing("inn 5;chair 0;plain 0 0 0 0;sly 0 0 0 0;faint 0 0 0 0;stout 0 0 0 0", 9);
        standing("inn 5;faint 0 0 0 0;faint 0 0 0 0", 0);
        standing("inn 5;faint 0 0 0 0;plain 0 0 0 0", 2);
        standing("inn 5;plain 0 0 0 0;plain 0 0 0 0;plain 0 0 0 0;plain 0 0 0 0;plain 0 0 0 0;plain 0 0 0 0", 63);
    }

    /** Promise 10 on the empty: no guests, no chairs. */
    private static void aStopWithoutChairsOrGuests() {
        OneTooFew x = new OneTooFew();
        due("nobody is standing", x.stop(), 0);
        due("it has stopped", x.count(4), 0);
        due("minutes", x.play(), 0);
        x = stopped("inn 3;chair 0;chair 1;chair 2");
        for (int place = 0; place < 3; place++) {
            due("nobody sits at " + place, x.place(place, 1), NONE);
        }
        x = stopped("inn 3;plain 2 0 0 9");
        due("he stands", x.count(5), 1);
        due("he does not sit", x.guest(0, 5), NONE);
        due("he is where he was", x.guest(0, 1), 2);
        due("he pays his own", x.guest(0, 6), 9);
    }

    /** "WORTH of all GUESTS together is shared by those that are STANDING". */
    private static void whoStandsPays() {
        OneTooFew x = stopped("inn 9;chair 0;plain 0 0 0 10;plain 4 0 0 1;faint 4 0 0 5");
        due("who sits does not pay", x.guest(0, 6), 0);
        due("who stands pays for all", x.guest(1, 6), 16);
        due("a faint one does not pay", x.guest(2, 6), 0);
        x.play();
        due("what was paid stays paid", x.guest(1, 6), 16);
        x.stop();
        due("he pays again", x.guest(1, 6), 32);
        x = stopped("inn 9;plain 0 0 0 99;sly 0 0 0 99;stout 0 0 0 99;plain 0 0 0 99;plain 0 0 0 99;plain 0 0 0 99");
        for (int guest = 0; guest < 6; guest++) {
            due("all stand, each pays a sixth", x.guest(guest, 6), 99);
        }
        x = stopped("inn 9;faint 0 0 0 99;faint 0 0 0 99;stout 0 0 0 99;faint 0 0 0 99;faint 0 0 0 99;faint 0 0 0 99");
        due("one pays all", x.guest(2, 6), 594);
        x = stopped("inn 9;plain 0 0 0 0;plain 0 0 0 0");
        due("worth 0 is nothing to pay", x.guest(1, 6), 0);
    }

    /** "(alike, each cut)". */
    private static void sharesAreCut() {
        int[] shares = {99, 49, 33, 24, 19, 16};
        for (int standing = 1; standing <= 6; standing++) {
            OneTooFew x = stopped("inn 9" + ";plain 0 0 0 0".repeat(standing - 1) + ";plain 0 0 0 99");
            for (int guest = 0; guest < standing; guest++) {
                due("99 by " + standing, x.guest(guest, 6), shares[standing - 1]);
            }
        }
        OneTooFew x = stopped("inn 9;plain 0 0 0 1;plain 0 0 0 0;plain 0 0 0 1");
        due("2 by 3", x.guest(0, 6), 0);
        x.play();
        x.stop();
        due("each share is cut, not their sum", x.guest(0, 6), 0);
    }

    /** Nobody is STANDING: nothing is shared. */
    private static void nobodyStandsNobodyPays() {
        String[] texts = {"chair 0;plain 0 0 0 50", "faint 0 0 0 50", "chair 0;faint 0 0 0 9;sly 3 0 0 50"};
        for (String text : texts) {
            OneTooFew x = stopped(text);
            due("nobody stands by " + text, x.count(5), 0);
            for (int guest = 0; guest < x.count(1); guest++) {
                due("nobody pays by " + text, x.guest(guest, 6), 0);
            }
        }
    }

    /** Promise 10: "NOT: it has stopped." */
    private static void stopIsNotNowBehindAStop() {
        OneTooFew x = stopped("inn 9;chair 0;plain 1 0 0 7;plain 2 0 0 1");
        due("a second stop", x.stop(), NOT);
        due("nobody pays twice", x.guest(1, 6), 8);
        due("he sits still", x.guest(0, 5), 0);
        x.play();
        due("a stop behind play", x.stop(), 2);
    }

    /** Promise 11: "all get up, where they sit (those STANDING, FAINT ones without a CHAIR where they are)". */
    private static void playGetsAllUpWhereTheyAre() {
        OneTooFew x = Check.told("inn 9;chair 0;chair 4;stout 7 1 0 5;plain 3 1 1 6;faint 6 1 0 1;plain 6 1 0 1");
        x.walk(9);
        due("guest 3 stands", x.stop(), 8);
        due("minutes", x.play(), 9);
        due("it plays", x.count(4), 1);
        due("nobody is standing", x.count(5), 0);
        int[] places = {0, 4, 6, 6};
        for (int guest = 0; guest < 4; guest++) {
            due("guest " + guest + " is there", x.guest(guest, 1), places[guest]);
            due("guest " + guest + " is up", x.guest(guest, 5), NONE);
        }
        for (int place = 0; place < 9; place++) {
            due("nobody sits at " + place, x.place(place, 1), NONE);
        }
        x.walk(1);
        int[] next = {1, 3, 7, 7};
        for (int guest = 0; guest < 4; guest++) {
            due("guest " + guest + " goes on", x.guest(guest, 1), next[guest]);
        }
        x = stopped("inn 9;chair 0;faint 6 1 1 5");
        due("minutes", x.play(), 0);
        due("a faint one is up where he sat", x.guest(0, 1), 0);
        x.walk(1);
        due("back behind 0", x.guest(0, 1), 8);
    }

    /** Promise 11: "NOT: it plays." */
    private static void playIsNotNowWhileItPlays() {
        OneTooFew x = new OneTooFew();
        due("at first", x.play(), NOT);
        x.stop();
        due("behind a stop", x.play(), 0);
        due("behind play", x.play(), NOT);
        x.stop();
        Check.write(x, "inn 3");
        x.inn();
        due("behind a text", x.play(), NOT);
    }

    /** "SLY (2) is PLAIN; FAINT (3) is PLAIN; STOUT (4) is a GUEST.", and promise 8: "NOT: he is none such." */
    private static void kindsAreOverOneAnother() {
        boolean[][] isSuch = {{true, true, false, false, false}, {true, true, true, false, false},
            {true, true, false, true, false}, {true, false, false, false, true}};
        for (int kind = 0; kind < 4; kind++) {
            OneTooFew x = Check.told("inn 9;chair 0;" + KINDS[kind] + " 3 0 0 0");
            int effort = kind == 1 ? 102 : 103;
            for (int above = 0; above < 5; above++) {
                due(KINDS[kind] + " as " + above, x.as(0, above), isSuch[kind][above] ? effort : NOT);
            }
            due(KINDS[kind] + " as 5", x.as(0, 5), OUTSIDE);
            due(KINDS[kind] + " as -1", x.as(0, -1), OUTSIDE);
            due("no such guest", x.as(1, 0), UNKNOWN);
            due("no such guest", x.as(-1, 0), UNKNOWN);
        }
    }

    /** Promise 8: "his EFFORT to the nearest CHAIR from where he is, and 100". */
    private static void asTellsEffortFromWhereHeIs() {
        OneTooFew x = Check.told("inn 12;chair 0;chair 5;sly 11 1 0 0;plain 11 1 0 0");
        int[] efforts = {1, 0, 1, 2, 2, 1, 0, 1, 2, 3, 3, 2, 1};
        for (int minute = 0; minute < efforts.length; minute++) {
            due("plain at minute " + minute, x.as(1, 0), 100 + efforts[minute]);
            due("sly at minute " + minute, x.as(0, 0), 99 + efforts[minute]);
            x.walk(1);
        }
        x = stopped("inn 12;chair 0;sly 2 0 0 0;plain 5 0 0 0");
        due("on his chair", x.as(0, 0), 99);
        due("to a chair on which one sits", x.as(1, 0), 105);
    }

    /** Promise 8: "NONE: there are none." */
    private static void asNoneWithoutChairs() {
        for (int kind = 0; kind < 4; kind++) {
            OneTooFew x = Check.told("inn 9;" + KINDS[kind] + " 3 0 0 0");
            due(KINDS[kind] + " without chairs", x.as(0, 0), NONE);
            due("what he is not, without chairs", x.as(0, kind == 3 ? 1 : 4), NOT);
            due("no such kind, without chairs", x.as(0, 5), OUTSIDE);
            Check.write(x, "chair 8");
            x.inn();
            due(KINDS[kind] + " with a chair", x.as(0, 0), kind == 1 ? 103 : 104);
        }
    }

    /** Promise 6: "(what 0), who sits there (1; ..), GUESTS that are there (2, by bits). UNKNOWN; OUTSIDE." */
    private static void placeTellsThreeThings() {
        OneTooFew x = stopped("inn 5;chair 4;chair 1;stout 4 0 0 0;plain 0 0 0 0");
        due("a chair at 4", x.place(4, 0), 1);
        due("no chair at 0", x.place(0, 0), 0);
        due("who sits at 4", x.place(4, 1), 0);
        due("who sits at 1", x.place(1, 1), 0);
        due("nobody sits at 0", x.place(0, 1), NONE);
        due("who is at 0", x.place(0, 2), 2);
        due("who is at 4", x.place(4, 2), 1);
        due("nobody is at 1", x.place(1, 2), 0);
        int[] wrong = {-1, 3, 4, 100, Integer.MAX_VALUE, Integer.MIN_VALUE};
        for (int what : wrong) {
            due("what " + what, x.place(4, what), OUTSIDE);
        }
        int[] nowhere = {-1, 5, 8, 12, 31, 32, Integer.MAX_VALUE, Integer.MIN_VALUE};
        for (int place : nowhere) {
            for (int what = -1; what <= 3; what++) {
                due("place " + place + " what " + what, x.place(place, what), UNKNOWN);
            }
        }
    }

    /** Promise 7: "KIND (what 0), .. what he has paid (6). UNKNOWN; OUTSIDE." */
    private static void guestTellsSevenThings() {
        OneTooFew x = stopped("inn 12;chair 11;faint 10 3 1 7;stout 3 2 0 99");
        int[][] want = {{2, 10, 3, 1, 7, NONE, 0}, {3, 11, 2, 0, 99, 11, 0}};
        for (int guest = 0; guest < 2; guest++) {
            for (int what = 0; what < 7; what++) {
                due("guest " + guest + " what " + what, x.guest(guest, what), want[guest][what]);
            }
        }
        int[] wrong = {-1, 7, 8, 100, Integer.MAX_VALUE, Integer.MIN_VALUE};
        for (int what : wrong) {
            due("what " + what, x.guest(1, what), OUTSIDE);
        }
        int[] nobody = {-1, 2, 5, 6, 31, 32, Integer.MAX_VALUE, Integer.MIN_VALUE};
        for (int guest : nobody) {
            for (int what = -1; what <= 7; what++) {
                due("guest " + guest + " what " + what, x.guest(guest, what), UNKNOWN);
            }
        }
    }

    /** Promise 12: "is kept (k 0, 1): MINUTES. UNKNOWN: no such k." */
    private static void keepHasTwo() {
        OneTooFew x = Check.told("inn 9;plain 0 1 0 0");
        int[] wrong = {-1, 2, 3, 100, Integer.MAX_VALUE, Integer.MIN_VALUE};
        for (int k : wrong) {
            due("keep " + k, x.keep(k), UNKNOWN);
            due("back " + k, x.back(k), UNKNOWN);
        }
        due("nothing was kept by them", x.back(0), NOT);
        due("nothing was kept by them", x.back(1), NOT);
        due("minute 0 in 0", x.keep(0), 0);
        due("nothing in 1", x.back(1), NOT);
        x.walk(3);
        due("minute 3 in 1", x.keep(1), 3);
        x.walk(1);
        due("back to 0", x.back(0), 0);
        due("at 0", x.guest(0, 1), 0);
        due("back to 3", x.back(1), 3);
        due("at 3", x.guest(0, 1), 3);
        x.walk(5);
        due("0 anew", x.keep(0), 8);
        x.walk(1);
        due("back to what was kept last", x.back(0), 8);
        due("the other one stays", x.back(1), 3);
        for (int k : wrong) {
            due("back " + k + " when both are kept", x.back(k), UNKNOWN);
        }
        due("where it was", x.count(3), 3);
    }

    /** Promises 12 and 13: "All as it is (MINUTES, who is where, sits, has paid, whether it plays)". */
    private static void backBringsAllBack() {
        OneTooFew x = Check.told("inn 9;chair 0;chair 4;stout 7 1 0 5;plain 3 1 1 6;faint 6 1 0 1;plain 6 1 0 3");
        x.walk(9);
        x.stop();
        int[] whileStopped = Twins.look(x);
        due("kept while it has stopped", x.keep(0), 9);
        x.play();
        x.walk(2);
        int[] whilePlaying = Twins.look(x);
        due("kept while it plays", x.keep(1), 11);
        x.stop();
        x.play();
        x.walk(50);
        due("back to the stop", x.back(0), 9);
        CHECK.holds("all is as it was at the stop", Arrays.equals(Twins.look(x), whileStopped));
        due("it has stopped", x.stop(), NOT);
        due("back to the music", x.back(1), 11);
        CHECK.holds("all is as it was in the music", Arrays.equals(Twins.look(x), whilePlaying));
        due("it plays", x.play(), NOT);
    }

    /** Promise 13: "NOT: nothing was kept since the last text." */
    private static void backIsNotNowBehindAText() {
        OneTooFew x = new OneTooFew();
        due("a new object", x.back(0), NOT);
        due("kept ahead of any text", x.keep(0), 0);
        due("it is there", x.back(0), 0);
        Check.write(x, "nobody");
        x.keep(1);
        x.inn();
        due("behind a text", x.back(0), NOT);
        due("behind a text", x.back(1), NOT);
        x.keep(1);
        due("kept since", x.back(1), 0);
        due("the other one was not", x.back(0), NOT);
        Check.write(x, "nobodyy");
        x.inn();
        due("a text with a fault is none", x.back(1), 0);
        x.erase();
        due("nor is an erased one", x.back(1), 0);
    }

    /** Promise 12 names what is kept: neither THE TEXT nor SEEN. */
    private static void backLeavesTextAndSeen() {
        OneTooFew x = Check.told("inn 9;plain 0 1 0 0");
        x.seen(0, 1);
        Check.write(x, "abc");
        x.keep(0);
        x.seen(0, 1);
        Check.write(x, "de");
        x.walk(1);
        x.back(0);
        due("seen stays", x.count(6), 2);
        due("the text stays", x.count(7), 5);
        x.forget();
        x.erase();
        x.back(0);
        due("seen stays forgotten", x.count(6), 0);
        due("the text stays erased", x.count(7), 0);
        x.keep(0);
        x.seen(0, 0);
        x.forget();
        due("forget leaves what is kept", x.back(0), 0);
    }
}
