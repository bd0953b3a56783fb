import java.util.Arrays;

/** An inn that is laid for one too few; ../shared/DOC.md says what each call answers. */
public final class OneTooFew {
    public static final int NONE = -1, UNKNOWN = -2, OUTSIDE = -3, NOT = -4, FULL = -5;

    private static final int MOST_GUESTS = 6;
    private static final int FEWEST_PLACES = 3;
    private static final int MOST_PLACES = 12;
    private static final int FIRST_PLACES = 8;
    private static final int MOST_PACE = 3;
    private static final int MOST_WORTH = 99;
    private static final int LAST_MINUTE = 99;
    private static final int MOST_MINUTES = 9999;
    private static final int MOST_BYTES = 200;
    private static final int MOST_LINES = 12;
    private static final int MOST_SEEN = 6;

    private static final int PLAIN = 0;
    private static final int SLY = 1;
    private static final int FAINT = 2;
    private static final int STOUT = 3;

    private final Told told;
    private final Text text;
    private final Seating seating;
    private final Foretold foretold;
    private final Finder finder;
    private final Evening evening;
    private final Evening firstKept;
    private final Evening secondKept;
    private final Sights sights;

    public OneTooFew() {
        told = new Told();
        text = new Text();
        seating = new Seating(told);
        foretold = new Foretold(told, seating);
        finder = new Finder(told, foretold);
        evening = new Evening();
        firstKept = new Evening();
        secondKept = new Evening();
        sights = new Sights();
    }

    // ---- what is told

    public int write(long bytes, int n) {
        if (n < 1 || n > 8) {
            return OUTSIDE;
        }
        if (text.length + n > MOST_BYTES) {
            return FULL;
        }
        for (int i = 0; i < n; i++) {
            text.append((int) (bytes >> 8 * i & 255));
        }
        return text.length;
    }

    public int erase() {
        int had = text.length;
        text.length = 0;
        return had;
    }

    public int fault() {
        return text.read(told);
    }

    public int inn() {
        if (text.read(told) != NONE) {
            return NOT;
        }
        told.copyFrom(text.draft);
        text.length = 0;
        evening.begin(told);
        firstKept.isKept = false;
        secondKept.isKept = false;
        sights.number = 0;
        return text.lines;
    }

    public int place(int place, int what) {
        if (!told.hasPlace(place)) {
            return UNKNOWN;
        }
        switch (what) {
            case 0:
                return told.hasChair(place) ? 1 : 0;
            case 1:
                return evening.holder[place];
            case 2:
                return evening.whoIsAt(place, told.guests);
            default:
                return OUTSIDE;
        }
    }

    public int guest(int guest, int what) {
        if (!told.hasGuest(guest)) {
            return UNKNOWN;
        }
        switch (what) {
            case 0:
                return told.kind[guest];
            case 1:
                return evening.at[guest];
            case 2:
                return told.pace[guest];
            case 3:
                return told.way[guest];
            case 4:
                return told.worth[guest];
            case 5:
                return evening.seat[guest];
            case 6:
                return evening.paid[guest];
            default:
                return OUTSIDE;
        }
    }

    public int as(int guest, int kind) {
        if (!told.hasGuest(guest)) {
            return UNKNOWN;
        }
        if (kind < 0 || kind > 4) {
            return OUTSIDE;
        }
        if (!told.isA(guest, kind)) {
            return NOT;
        }
        int away = told.nearestChair(evening.at[guest]);
        return away == NONE ? NONE : 100 + away - told.ease(guest);
    }

    // ---- an evening

    public int walk(int n) {
        if (n < 1 || n > 99) {
            return OUTSIDE;
        }
        if (!evening.plays) {
            return NOT;
        }
        if (evening.minutes + n > MOST_MINUTES) {
            return FULL;
        }
        evening.goOn(told, n);
        return evening.minutes;
    }

    public int stop() {
        if (!evening.plays) {
            return NOT;
        }
        System.arraycopy(evening.at, 0, seating.at, 0, MOST_GUESTS);
        int stood = seating.settle(told.everyone(), told.chairs);
        seating.settleFaint(told.everyone());
        evening.end(told, seating, stood);
        return stood;
    }

    public int play() {
        if (evening.plays) {
            return NOT;
        }
        evening.getUp();
        return evening.minutes;
    }

    public int keep(int k) {
        if (!isEither(k)) {
            return UNKNOWN;
        }
        Evening kept = k == 0 ? firstKept : secondKept;
        kept.copyFrom(evening);
        kept.isKept = true;
        return evening.minutes;
    }

    public int back(int k) {
        if (!isEither(k)) {
            return UNKNOWN;
        }
        Evening kept = k == 0 ? firstKept : secondKept;
        if (!kept.isKept) {
            return NOT;
        }
        evening.copyFrom(kept);
        return evening.minutes;
    }

    // ---- foretold

    public int standing(int t) {
        if (!isMinute(t)) {
            return OUTSIDE;
        }
        foretold.asTold();
        return foretold.stoodAt(t);
    }

    public int odds(int guest, int a, int b, int part) {
        if (!told.hasGuest(guest)) {
            return UNKNOWN;
        }
        if (!areMinutes(a, b) || !isEither(part)) {
            return OUTSIDE;
        }
        foretold.asTold();
        foretold.tally(a, b);
        int stood = foretold.times[guest];
        int all = b - a + 1;
        int common = commonDivisor(all, stood);
        if (common < 1) {
            return OUTSIDE;
        }
        return (part == 0 ? stood : all) / common;
    }

    public int surest(int guest, int a, int b, int what) {
        if (!told.hasGuest(guest)) {
            return UNKNOWN;
        }
        if (!areMinutes(a, b) || what < 0 || what > 2) {
            return OUTSIDE;
        }
        finder.findSurest(guest, a, b);
        if (what == 0) {
            return finder.bestPace;
        }
        return what == 1 ? finder.bestWay : finder.best;
    }

    public int still(int a, int b, int what) {
        if (!areMinutes(a, b) || !isEither(what)) {
            return OUTSIDE;
        }
        finder.findStill(a, b);
        return what == 0 ? finder.best : finder.bestSet;
    }

    public int plot(int guest, int friends, int t, int what) {
        if (!told.hasGuest(guest) || !told.hasAll(friends) || holds(friends, guest)) {
            return UNKNOWN;
        }
        if (!isMinute(t) || !isEither(what)) {
            return OUTSIDE;
        }
        finder.findPlot(guest, friends, t);
        return what == 0 ? finder.best : finder.bestSet;
    }

    public int price(int t) {
        if (!isMinute(t)) {
            return OUTSIDE;
        }
        foretold.asTold();
        int stood = foretold.stoodAt(t);
        return seating.second ? told.greatestWorth(stood) : 0;
    }

    public int laid(int chairs, int a, int b, int what) {
        if (chairs < 0 || chairs > told.places || !areMinutes(a, b) || !isEither(what)) {
            return OUTSIDE;
        }
        finder.findLaid(chairs, a, b);
        return what == 0 ? finder.best : finder.bestSet;
    }

    public int left(int t, int what) {
        if (!isMinute(t) || !isEither(what)) {
            return OUTSIDE;
        }
        int stops = foretold.playRounds(t);
        return what == 0 ? foretold.among : stops;
    }

    // ---- what was seen

    public int seen(int guest, int stood) {
        if (!told.hasGuest(guest)) {
            return UNKNOWN;
        }
        if (!isEither(stood)) {
            return OUTSIDE;
        }
        if (sights.number >= MOST_SEEN) {
            return FULL;
        }
        sights.add(guest, stood);
        return sights.number;
    }

    public int forget() {
        int had = sights.number;
        sights.number = 0;
        return had;
    }

    public int fits(int what) {
        if (!isEither(what)) {
            return OUTSIDE;
        }
        finder.findFits(sights);
        return what == 0 ? finder.best : finder.bestSet;
    }

    public int count(int what) {
        switch (what) {
            case 0:
                return told.places;
            case 1:
                return told.guests;
            case 2:
                return told.chairs;
            case 3:
                return evening.minutes;
            case 4:
                return evening.plays ? 1 : 0;
            case 5:
                return evening.stood;
            case 6:
                return sights.number;
            case 7:
                return text.length;
            default:
                return OUTSIDE;
        }
    }

    private static boolean isMinute(int t) {
        return t >= 0 && t <= LAST_MINUTE;
    }

    private static boolean areMinutes(int a, int b) {
        return isMinute(a) && isMinute(b) && a <= b;
    }

    private static boolean isEither(int number) {
        return number == 0 || number == 1;
    }

    private static boolean holds(int set, int one) {
        return (set >> one & 1) == 1;
    }

    private static int commonDivisor(int a, int b) {
        int greater = a;
        int less = b;
        // The remainders at least halve every second step, so 64 are more than an int needs.
        for (int i = 0; i < 64 && less != 0; i++) {
            int rest = greater % less;
            greater = less;
            less = rest;
        }
        return greater;
    }

    /** What the texts have told: the ring, its chairs, and the guests as they begin. */
    private static final class Told {
        int places = FIRST_PLACES;
        int chairs;
        int guests;
        final int[] kind = new int[MOST_GUESTS];
        final int[] start = new int[MOST_GUESTS];
        final int[] pace = new int[MOST_GUESTS];
        final int[] way = new int[MOST_GUESTS];
        final int[] worth = new int[MOST_GUESTS];

        void copyFrom(Told other) {
            places = other.places;
            chairs = other.chairs;
            guests = other.guests;
            System.arraycopy(other.kind, 0, kind, 0, MOST_GUESTS);
            System.arraycopy(other.start, 0, start, 0, MOST_GUESTS);
            System.arraycopy(other.pace, 0, pace, 0, MOST_GUESTS);
            System.arraycopy(other.way, 0, way, 0, MOST_GUESTS);
            System.arraycopy(other.worth, 0, worth, 0, MOST_GUESTS);
        }

        boolean hasPlace(int place) {
            return place >= 0 && place < places;
        }

        boolean hasChair(int place) {
            return hasPlace(place) && holds(chairs, place);
        }

        boolean hasGuest(int guest) {
            return guest >= 0 && guest < guests;
        }

        boolean hasAll(int set) {
            return (set & ~everyone()) == 0;
        }

        int everyone() {
            return (1 << guests) - 1;
        }

        int allOfKind(int which) {
            int set = 0;
            for (int g = 0; g < guests; g++) {
                if (kind[g] == which) {
                    set |= 1 << g;
                }
            }
            return set;
        }

        /** Whether a guest is of a kind as kinds are over one another: 0 guest, 1 plain, 2 sly, 3 faint, 4 stout. */
        boolean isA(int guest, int above) {
            switch (above) {
                case 0:
                    return true;
                case 1:
                    return kind[guest] != STOUT;
                case 2:
                    return kind[guest] == SLY;
                case 3:
                    return kind[guest] == FAINT;
                default:
                    return kind[guest] == STOUT;
            }
        }

        /** By how much a guest's effort is less than the way that he has to a chair. */
        int ease(int guest) {
            return kind[guest] == SLY ? 1 : 0;
        }

        int placeAfter(int place, int steps, int byWay) {
            int unbent = byWay == 0 ? place + steps : place - steps;
            return places < 1 ? 0 : Math.floorMod(unbent, places);
        }

        int farthest() {
            return places / 2;
        }

        /** Of the places of a set, the least that is just so far from a place by the shorter way. */
        int leastAt(int place, int away, int set) {
            if (away < 0 || away > farthest()) {
                return NONE;
            }
            int up = place + away < places ? place + away : place + away - places;
            int down = place - away >= 0 ? place - away : place - away + places;
            int least = up < down ? up : down;
            if (holds(set, least)) {
                return least;
            }
            int other = up + down - least;
            return holds(set, other) ? other : NONE;
        }

        int nearestChair(int place) {
            for (int away = 0; away <= farthest(); away++) {
                if (leastAt(place, away, chairs) != NONE) {
                    return away;
                }
            }
            return NONE;
        }

        int allWorth() {
            int sum = 0;
            for (int g = 0; g < guests; g++) {
                sum += worth[g];
            }
            return sum;
        }

        int greatestWorth(int set) {
            int greatest = 0;
            for (int g = 0; g < guests; g++) {
                if (holds(set, g)) {
                    greatest = Math.max(greatest, worth[g]);
                }
            }
            return greatest;
        }

        void beginInn(int number) {
            places = number;
            chairs = 0;
            guests = 0;
        }

        boolean addGuest(int ofKind, int[] numbers) {
            if (guests >= MOST_GUESTS || numbers.length < 4) {
                return false;
            }
            kind[guests] = ofKind;
            start[guests] = numbers[0];
            pace[guests] = numbers[1];
            way[guests] = numbers[2];
            worth[guests] = numbers[3];
            guests++;
            return true;
        }
    }

    /** THE TEXT, read token by token; its lines are done on a draft, so that a fault leaves the inn as it was. */
    private static final class Text {
        final int[] bytes = new int[MOST_BYTES];
        int length;
        final Told draft = new Told();
        int lines;
        private int begin;
        private int end;
        private int value;
        private final int[] numbers = new int[4];

        void append(int b) {
            if (length < MOST_BYTES) {
                bytes[length] = b;
                length++;
            }
        }

        /** Where the first fault is, or NONE; draft and lines are what the lines ahead of it have made. */
        int read(Told told) {
            draft.copyFrom(told);
            end = 0;
            for (lines = 1; lines <= MOST_LINES; lines++) {
                if (!doLine()) {
                    return begin;
                }
                nextToken();
                if (begin >= length) {
                    return NONE;
                }
                if (bytes[begin] != ';') {
                    return begin;
                }
            }
            return begin;
        }

        private void nextToken() {
            begin = end;
            while (begin < length && bytes[begin] == ' ') {
                begin++;
            }
            end = begin;
            while (end < length && isLetter(bytes[end])) {
                end++;
            }
            if (end > begin) {
                return;
            }
            while (end < length && isDigit(bytes[end])) {
                end++;
            }
            if (end == begin && end < length) {
                end++;
            }
        }

        private static boolean isLetter(int b) {
            return b >= 'a' && b <= 'z';
        }

        private static boolean isDigit(int b) {
            return b >= '0' && b <= '9';
        }

        private boolean isWord(String word) {
            if (word.length() != end - begin) {
                return false;
            }
            for (int i = 0; i < word.length(); i++) {
                if (bytes[begin + i] != word.charAt(i)) {
                    return false;
                }
            }
            return true;
        }

        private boolean doLine() {
            nextToken();
            if (isWord("inn")) {
                return doInn();
            }
            if (isWord("chair")) {
                return doChair(false);
            }
            if (isWord("take")) {
                return doChair(true);
            }
            if (isWord("nobody")) {
                draft.guests = 0;
                return true;
            }
            int kind = kindOfWord();
            return kind != NONE && doGuest(kind);
        }

        private int kindOfWord() {
            if (isWord("plain")) {
                return PLAIN;
            }
            if (isWord("sly")) {
                return SLY;
            }
            if (isWord("faint")) {
                return FAINT;
            }
            return isWord("stout") ? STOUT : NONE;
        }

        private boolean doInn() {
            if (!readNumber(FEWEST_PLACES, MOST_PLACES)) {
                return false;
            }
            draft.beginInn(value);
            return true;
        }

        private boolean doChair(boolean taken) {
            if (!readNumber(0, draft.places - 1) || draft.hasChair(value) != taken) {
                return false;
            }
            draft.chairs ^= 1 << value;
            return true;
        }

        private boolean doGuest(int kind) {
            if (draft.guests >= MOST_GUESTS) {
                return false;
            }
            for (int i = 0; i < 4; i++) {
                if (!readNumber(0, mostOf(i))) {
                    return false;
                }
                numbers[i] = value;
            }
            return draft.addGuest(kind, numbers);
        }

        /** The bound of a guest's number: his place, pace, way and worth. */
        private int mostOf(int number) {
            switch (number) {
                case 0:
                    return draft.places - 1;
                case 1:
                    return MOST_PACE;
                case 2:
                    return 1;
                default:
                    return MOST_WORTH;
            }
        }

        private boolean readNumber(int least, int most) {
            nextToken();
            if (begin >= length || !isDigit(bytes[begin]) || end - begin > 2) {
                return false;
            }
            value = 0;
            for (int i = begin; i < end; i++) {
                value = value * 10 + bytes[i] - '0';
            }
            return value >= least && value <= most;
        }
    }

    /** One stop: who sits where, of those who are at places. */
    private static final class Seating {
        private final Told told;
        final int[] at = new int[MOST_GUESTS];
        final int[] seat = new int[MOST_GUESTS];
        final int[] holder = new int[MOST_PLACES];
        boolean second;
        private int free;

        Seating(Told told) {
            this.told = told;
        }

        /** Guests of a set, but for faint ones, take chairs of a set; who is left standing, by bits. */
        int settle(int among, int chairs) {
            Arrays.fill(seat, NONE);
            Arrays.fill(holder, NONE);
            second = false;
            free = chairs;
            return seatAll(among & ~told.allOfKind(FAINT));
        }

        /** Behind settle: faint ones take what is left; who stands is no other by it, so foretold calls go without. */
        void settleFaint(int among) {
            seatAll(among & told.allOfKind(FAINT));
        }

        /**
         * Pairs are tried by rising effort, guest and place: one that can't be when its turn comes can never be
         * later, so this is the same as looking for the least pair again and again.
         */
        private int seatAll(int set) {
            int waiting = set;
            for (int effort = -1; effort <= told.farthest() && free != 0 && waiting != 0; effort++) {
                for (int g = 0; g < told.guests; g++) {
                    int chair = holds(waiting, g) ? told.leastAt(at[g], effort + told.ease(g), free) : NONE;
                    if (chair != NONE) {
                        seatOne(g, chair);
                        waiting &= ~(1 << g);
                    }
                }
            }
            return waiting;
        }

        private void seatOne(int guest, int chair) {
            seat[guest] = chair;
            take(guest, chair);
            if (told.kind[guest] != STOUT) {
                return;
            }
            for (int away = 1; away <= told.farthest(); away++) {
                int next = told.leastAt(chair, away, free);
                if (next != NONE) {
                    take(guest, next);
                    second = true;
                    return;
                }
            }
        }

        private void take(int guest, int chair) {
            holder[chair] = guest;
            free &= ~(1 << chair);
        }
    }

    /** The evening as it is: minutes, who is where, sits, has paid, and whether it plays. */
    private static final class Evening {
        int minutes;
        boolean plays = true;
        boolean isKept;
        int stood;
        final int[] at = new int[MOST_GUESTS];
        final int[] seat = new int[MOST_GUESTS];
        final int[] holder = new int[MOST_PLACES];
        final int[] paid = new int[MOST_GUESTS];

        Evening() {
            Arrays.fill(seat, NONE);
            Arrays.fill(holder, NONE);
        }

        void begin(Told told) {
            minutes = 0;
            System.arraycopy(told.start, 0, at, 0, MOST_GUESTS);
            Arrays.fill(paid, 0);
            getUp();
        }

        void copyFrom(Evening other) {
            minutes = other.minutes;
            plays = other.plays;
            stood = other.stood;
            System.arraycopy(other.at, 0, at, 0, MOST_GUESTS);
            System.arraycopy(other.seat, 0, seat, 0, MOST_GUESTS);
            System.arraycopy(other.holder, 0, holder, 0, MOST_PLACES);
            System.arraycopy(other.paid, 0, paid, 0, MOST_GUESTS);
        }

        int whoIsAt(int place, int guests) {
            int set = 0;
            for (int g = 0; g < guests; g++) {
                if (at[g] == place) {
                    set |= 1 << g;
                }
            }
            return set;
        }

        void goOn(Told told, int n) {
            minutes += n;
            for (int g = 0; g < told.guests; g++) {
                at[g] = told.placeAfter(at[g], told.pace[g] * n, told.way[g]);
            }
        }

        void end(Told told, Seating seating, int standing) {
            plays = false;
            stood = standing;
            System.arraycopy(seating.seat, 0, seat, 0, MOST_GUESTS);
            System.arraycopy(seating.holder, 0, holder, 0, MOST_PLACES);
            int payers = Integer.bitCount(standing);
            int share = payers == 0 ? 0 : told.allWorth() / payers;
            for (int g = 0; g < told.guests; g++) {
                if (seat[g] != NONE) {
                    at[g] = seat[g];
                }
                if (holds(standing, g)) {
                    paid[g] += share;
                }
            }
        }

        void getUp() {
            plays = true;
            stood = 0;
            Arrays.fill(seat, NONE);
            Arrays.fill(holder, NONE);
        }
    }

    /** What would be from the begin on, as told or with walks, chairs or guests that are otherwise. */
    private static final class Foretold {
        private final Told told;
        private final Seating seating;
        final int[] pace = new int[MOST_GUESTS];
        final int[] way = new int[MOST_GUESTS];
        final int[] times = new int[MOST_GUESTS];
        int among;
        int chairs;

        Foretold(Told told, Seating seating) {
            this.told = told;
            this.seating = seating;
        }

        void asTold() {
            System.arraycopy(told.pace, 0, pace, 0, MOST_GUESTS);
            System.arraycopy(told.way, 0, way, 0, MOST_GUESTS);
            among = told.everyone();
            chairs = told.chairs;
        }

        int stoodAt(int t) {
            goTo(t);
            return seating.settle(among, chairs);
        }

        private void goTo(int t) {
            for (int g = 0; g < told.guests; g++) {
                seating.at[g] = told.placeAfter(told.start[g], pace[g] * t, way[g]);
            }
        }

        /** In how many minutes of a to b each guest is standing: into times. */
        void tally(int a, int b) {
            Arrays.fill(times, 0);
            for (int t = 0; t < told.places; t++) {
                int minutes = minutesLike(t, a, b);
                if (minutes > 0) {
                    goTo(t);
                    addTimes(seating.settle(among, chairs), minutes);
                }
            }
        }

        private void addTimes(int stood, int minutes) {
            for (int g = 0; g < told.guests; g++) {
                if (holds(stood, g)) {
                    times[g] += minutes;
                }
            }
        }

        /** How many minutes of a to b are like t: after as many as there are places, all are where they were. */
        int minutesLike(int t, int a, int b) {
            return minutesLikeTo(t, b) - minutesLikeTo(t, a - 1);
        }

        private int minutesLikeTo(int t, int last) {
            return last < t || told.places < 1 ? 0 : (last - t) / told.places + 1;
        }

        /** How far the guest who stands most and the one who stands least are apart in times. */
        int spread() {
            int most = 0;
            int fewest = LAST_MINUTE + 1;
            for (int g = 0; g < told.guests; g++) {
                most = Math.max(most, times[g]);
                fewest = Math.min(fewest, times[g]);
            }
            return told.guests == 0 ? 0 : most - fewest;
        }

        /** Rounds that stop at t: how many stops; who is left is in among. */
        int playRounds(int t) {
            asTold();
            int stops = 0;
            // Each round but the last sends one out at least.
            while (stops <= MOST_GUESTS && Integer.bitCount(among) > 1) {
                int out = stoodAt(t);
                stops++;
                if (out == 0) {
                    break;
                }
                among &= ~out;
                chairs &= chairs - 1;
            }
            return stops;
        }
    }

    /** Looks through walks, sets or minutes; what it finds is in best (how many), bestSet, bestPace and bestWay. */
    private static final class Finder {
        private final Told told;
        private final Foretold foretold;
        private final int[] rows = new int[MOST_GUESTS << MOST_GUESTS];
        int best;
        int bestSet;
        int bestPace;
        int bestWay;

        Finder(Told told, Foretold foretold) {
            this.told = told;
            this.foretold = foretold;
        }

        void findSurest(int guest, int a, int b) {
            foretold.asTold();
            best = LAST_MINUTE + 2;
            for (int pace = 0; pace <= MOST_PACE; pace++) {
                for (int way = 0; way <= 1; way++) {
                    foretold.pace[guest] = pace;
                    foretold.way[guest] = way;
                    foretold.tally(a, b);
                    if (foretold.times[guest] < best) {
                        best = foretold.times[guest];
                        bestPace = pace;
                        bestWay = way;
                    }
                }
            }
        }

        void findStill(int a, int b) {
            foretold.asTold();
            for (int set = 0; set <= told.everyone(); set++) {
                for (int g = 0; g < told.guests; g++) {
                    foretold.pace[g] = set >> g & 1;
                }
                foretold.tally(a, b);
                System.arraycopy(foretold.times, 0, rows, set * MOST_GUESTS, MOST_GUESTS);
            }
            best = 0;
            bestSet = NONE;
            for (int set = 0; set <= told.everyone(); set++) {
                if (nobodyWouldChange(set)) {
                    best++;
                    bestSet = bestSet == NONE ? set : bestSet;
                }
            }
        }

        private boolean nobodyWouldChange(int set) {
            for (int g = 0; g < told.guests; g++) {
                int other = set ^ 1 << g;
                if (rows[other * MOST_GUESTS + g] < rows[set * MOST_GUESTS + g]) {
                    return false;
                }
            }
            return true;
        }

        void findPlot(int guest, int friends, int t) {
            best = NONE;
            bestSet = NONE;
            for (int set = 0; set <= friends; set++) {
                int size = Integer.bitCount(set);
                if ((set & ~friends) == 0 && (best == NONE || size < best)) {
                    keepStill(set);
                    if (holds(foretold.stoodAt(t), guest)) {
                        best = size;
                        bestSet = set;
                    }
                }
            }
        }

        private void keepStill(int set) {
            foretold.asTold();
            for (int g = 0; g < told.guests; g++) {
                if (holds(set, g)) {
                    foretold.pace[g] = 0;
                }
            }
        }

        void findLaid(int number, int a, int b) {
            foretold.asTold();
            best = LAST_MINUTE + 2;
            bestSet = NONE;
            for (int set = 0; set < 1 << told.places && best > 0; set++) {
                if (Integer.bitCount(set) == number) {
                    foretold.chairs = set;
                    foretold.tally(a, b);
                    int spread = foretold.spread();
                    if (spread < best) {
                        best = spread;
                        bestSet = set;
                    }
                }
            }
        }

        void findFits(Sights sights) {
            foretold.asTold();
            best = 0;
            bestSet = NONE;
            for (int t = 0; t < told.places; t++) {
                if (sights.fit(foretold.stoodAt(t))) {
                    best += foretold.minutesLike(t, 0, LAST_MINUTE);
                    bestSet = bestSet == NONE ? t : bestSet;
                }
            }
        }
    }

    /** Who was seen standing or not. */
    private static final class Sights {
        int number;
        private final int[] who = new int[MOST_SEEN];
        private final int[] how = new int[MOST_SEEN];

        void add(int guest, int stood) {
            if (number < MOST_SEEN) {
                who[number] = guest;
                how[number] = stood;
                number++;
            }
        }

        boolean fit(int stood) {
            for (int i = 0; i < number; i++) {
                if ((stood >> who[i] & 1) != how[i]) {
                    return false;
                }
            }
            return true;
        }
    }
}
