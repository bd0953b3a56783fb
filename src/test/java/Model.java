import java.util.ArrayList;
import java.util.Arrays;
import java.util.List;

/** The document's words done as literally as may be, slow and without tricks, to compare the class with. */
final class Model {
    static final int NONE = -1, UNKNOWN = -2, OUTSIDE = -3, NOT = -4, FULL = -5;
    private static final List<String> KINDS = List.of("plain", "sly", "faint", "stout");

    record Guest(int kind, int start, int pace, int way, int worth) {
        Guest walking(int v, int w) {
            return new Guest(kind, start, v, w, worth);
        }
    }

    record Inn(int places, boolean[] chairs, List<Guest> guests) {
        Inn copy() {
            return new Inn(places, chairs.clone(), new ArrayList<>(guests));
        }
    }

    /** What a stop gives: for each chair who sits on it, for each guest his first chair. */
    static final class Outcome {
        int[] holder;
        int[] seat;
        int standing;
        boolean second;
    }

    static final class Evening {
        int minutes = 0;
        boolean plays = true;
        int[] at = new int[0];
        int[] seat = new int[0];
        int[] holder = new int[12];
        int[] paid = new int[0];
        int standing = 0;

        Evening() {
            Arrays.fill(holder, NONE);
        }

        Evening copy() {
            Evening e = new Evening();
            e.minutes = minutes;
            e.plays = plays;
            e.at = at.clone();
            e.seat = seat.clone();
            e.holder = holder.clone();
            e.paid = paid.clone();
            e.standing = standing;
            return e;
        }
    }

    Inn inn = new Inn(8, new boolean[8], new ArrayList<>());
    Evening evening = new Evening();
    Evening[] kept = new Evening[2];
    List<int[]> seen = new ArrayList<>();
    String text = "";

    // ---- the text

    private record Token(int at, String sign) {
    }

    private static List<Token> tokens(String text) {
        List<Token> all = new ArrayList<>();
        int i = 0;
        while (i < text.length()) {
            int from = i;
            char c = text.charAt(i++);
            if (c == ' ') {
                continue;
            }
            String row = c >= 'a' && c <= 'z' ? "[a-z]" : c >= '0' && c <= '9' ? "[0-9]" : null;
            while (row != null && i < text.length() && text.substring(i, i + 1).matches(row)) {
                i++;
            }
            all.add(new Token(from, text.substring(from, i)));
        }
        all.add(new Token(text.length(), ""));
        return all;
    }

    private Inn made;
    private int madeLines;

    private static boolean isNumber(String sign, int low, int high) {
        return sign.matches("[0-9][0-9]?") && Integer.parseInt(sign) >= low && Integer.parseInt(sign) <= high;
    }

    int fault() {
        List<Token> row = tokens(text);
        made = inn.copy();
        madeLines = 0;
        int i = 0;
        while (true) {
            Token word = row.get(i++);
            String name = word.sign();
            int[] low = {0, 0, 0, 0};
            int[] high = {made.places() - 1, 3, 1, 99};
            int needs;
            if (name.equals("inn")) {
                needs = 1;
                low[0] = 3;
                high[0] = 12;
            } else if (name.equals("chair") || name.equals("take")) {
                needs = 1;
            } else if (KINDS.contains(name) && made.guests().size() < 6) {
                needs = 4;
            } else if (name.equals("nobody")) {
                needs = 0;
            } else {
                return word.at();
            }
            int[] n = new int[4];
            for (int k = 0; k < needs; k++) {
                Token number = row.get(i++);
                if (!isNumber(number.sign(), low[k], high[k])) {
                    return number.at();
                }
                n[k] = Integer.parseInt(number.sign());
                boolean isChair = name.equals("chair");
                if ((isChair || name.equals("take")) && made.chairs()[n[k]] == isChair) {
                    return number.at();
                }
            }
            switch (name) {
                case "inn" -> made = new Inn(n[0], new boolean[n[0]], new ArrayList<>());
                case "chair" -> made.chairs()[n[0]] = true;
                case "take" -> made.chairs()[n[0]] = false;
                case "nobody" -> made.guests().clear();
                default -> made.guests().add(new Guest(KINDS.indexOf(name), n[0], n[1], n[2], n[3]));
            }
            madeLines++;
            Token between = row.get(i++);
            if (between.sign().isEmpty()) {
                return NONE;
            }
            if (!between.sign().equals(";") || madeLines == 12) {
                return between.at();
            }
        }
    }

    int write(long bytes, int n) {
        if (n < 1 || n > 8) {
            return OUTSIDE;
        }
        if (text.length() + n > 200) {
            return FULL;
        }
        for (int i = 0; i < n; i++) {
            text += (char) (bytes >> 8 * i & 255);
        }
        return text.length();
    }

    int erase() {
        int had = text.length();
        text = "";
        return had;
    }

    int inn() {
        if (fault() != NONE) {
            return NOT;
        }
        inn = made;
        text = "";
        evening = new Evening();
        evening.at = inn.guests().stream().mapToInt(Guest::start).toArray();
        evening.seat = new int[inn.guests().size()];
        Arrays.fill(evening.seat, NONE);
        evening.paid = new int[inn.guests().size()];
        kept = new Evening[2];
        seen.clear();
        return madeLines;
    }

    // ---- a stop

    static int apart(int places, int a, int b) {
        int one = Math.abs(a - b);
        return Math.min(one, places - one);
    }

    static int effort(Inn inn, Guest guest, int at, int chair) {
        return apart(inn.places(), at, chair) - (guest.kind() == 1 ? 1 : 0);
    }

    private static void sitDown(Inn inn, int[] at, Outcome done, List<Integer> among, boolean faint) {
        while (true) {
            int bestGuest = NONE;
            int bestChair = NONE;
            int best = Integer.MAX_VALUE;
            for (int g : among) {
                if (done.seat[g] != NONE || (inn.guests().get(g).kind() == 2) != faint) {
                    continue;
                }
                for (int c = 0; c < inn.places(); c++) {
                    if (!inn.chairs()[c] || done.holder[c] != NONE) {
                        continue;
                    }
                    int effort = effort(inn, inn.guests().get(g), at[g], c);
                    if (effort < best) {
                        best = effort;
                        bestGuest = g;
                        bestChair = c;
                    }
                }
            }
            if (bestGuest == NONE) {
                return;
            }
            done.seat[bestGuest] = bestChair;
            done.holder[bestChair] = bestGuest;
            if (inn.guests().get(bestGuest).kind() == 3) {
                takeSecond(inn, done, bestGuest, bestChair);
            }
        }
    }

    private static void takeSecond(Inn inn, Outcome done, int guest, int first) {
        int second = NONE;
        for (int c = 0; c < inn.places(); c++) {
            if (inn.chairs()[c] && done.holder[c] == NONE
                    && (second == NONE || apart(inn.places(), first, c) < apart(inn.places(), first, second))) {
                second = c;
            }
        }
        if (second != NONE) {
            done.holder[second] = guest;
            done.second = true;
        }
    }

    static Outcome stopped(Inn inn, int[] at, List<Integer> among) {
        Outcome done = new Outcome();
        done.holder = new int[12];
        Arrays.fill(done.holder, NONE);
        done.seat = new int[at.length];
        Arrays.fill(done.seat, NONE);
        sitDown(inn, at, done, among, false);
        sitDown(inn, at, done, among, true);
        for (int g : among) {
            if (done.seat[g] == NONE && inn.guests().get(g).kind() != 2) {
                done.standing |= 1 << g;
            }
        }
        return done;
    }

    private static List<Integer> all(Inn inn) {
        List<Integer> all = new ArrayList<>();
        for (int g = 0; g < inn.guests().size(); g++) {
            all.add(g);
        }
        return all;
    }

    private static int oneMinuteOn(Inn inn, Guest guest, int at) {
        int now = at;
        for (int step = 0; step < guest.pace(); step++) {
            now = guest.way() == 0 ? now + 1 : now - 1;
            now = now == inn.places() ? 0 : now == -1 ? inn.places() - 1 : now;
        }
        return now;
    }

    static Outcome foretold(Inn inn, int t, List<Integer> among) {
        int[] at = new int[inn.guests().size()];
        for (int g = 0; g < at.length; g++) {
            at[g] = inn.guests().get(g).start();
            for (int minute = 0; minute < t; minute++) {
                at[g] = oneMinuteOn(inn, inn.guests().get(g), at[g]);
            }
        }
        return stopped(inn, at, among);
    }

    static int[] times(Inn inn, int a, int b) {
        int[] times = new int[inn.guests().size()];
        for (int t = a; t <= b; t++) {
            int standing = foretold(inn, t, all(inn)).standing;
            for (int g = 0; g < times.length; g++) {
                times[g] += standing >> g & 1;
            }
        }
        return times;
    }

    // ---- the calls

    private boolean noGuest(int guest) {
        return guest < 0 || guest >= inn.guests().size();
    }

    private static boolean noMinute(int t) {
        return t < 0 || t > 99;
    }

    private static boolean noSpan(int a, int b) {
        return noMinute(a) || noMinute(b) || b < a;
    }

    int place(int place, int what) {
        if (place < 0 || place >= inn.places()) {
            return UNKNOWN;
        }
        if (what < 0 || what > 2) {
            return OUTSIDE;
        }
        if (what == 0) {
            return inn.chairs()[place] ? 1 : 0;
        }
        if (what == 1) {
            return evening.holder[place];
        }
        int there = 0;
        for (int g = 0; g < evening.at.length; g++) {
            there += evening.at[g] == place ? 1 << g : 0;
        }
        return there;
    }

    int guest(int guest, int what) {
        if (noGuest(guest)) {
            return UNKNOWN;
        }
        Guest he = inn.guests().get(guest);
        return switch (what) {
            case 0 -> he.kind();
            case 1 -> evening.at[guest];
            case 2 -> he.pace();
            case 3 -> he.way();
            case 4 -> he.worth();
            case 5 -> evening.seat[guest];
            case 6 -> evening.paid[guest];
            default -> OUTSIDE;
        };
    }

    int as(int guest, int kind) {
        if (noGuest(guest)) {
            return UNKNOWN;
        }
        if (kind < 0 || kind > 4) {
            return OUTSIDE;
        }
        Guest he = inn.guests().get(guest);
        List<List<Integer>> is = List.of(List.of(0, 1), List.of(0, 1, 2), List.of(0, 1, 3), List.of(0, 4));
        if (!is.get(he.kind()).contains(kind)) {
            return NOT;
        }
        int best = NONE;
        for (int c = 0; c < inn.places(); c++) {
            if (inn.chairs()[c]) {
                int effort = 100 + effort(inn, he, evening.at[guest], c);
                best = best == NONE ? effort : Math.min(best, effort);
            }
        }
        return best;
    }

    int walk(int n) {
        if (n < 1 || n > 99) {
            return OUTSIDE;
        }
        if (!evening.plays) {
            return NOT;
        }
        if (evening.minutes + n > 9999) {
            return FULL;
        }
        for (int minute = 0; minute < n; minute++) {
            evening.minutes++;
            for (int g = 0; g < evening.at.length; g++) {
                evening.at[g] = oneMinuteOn(inn, inn.guests().get(g), evening.at[g]);
            }
        }
        return evening.minutes;
    }

    int stop() {
        if (!evening.plays) {
            return NOT;
        }
        Outcome done = stopped(inn, evening.at, all(inn));
        evening.plays = false;
        evening.seat = done.seat;
        evening.holder = done.holder;
        evening.standing = done.standing;
        int worth = inn.guests().stream().mapToInt(Guest::worth).sum();
        for (int g = 0; g < evening.at.length; g++) {
            if (done.seat[g] != NONE) {
                evening.at[g] = done.seat[g];
            }
            if ((done.standing >> g & 1) == 1) {
                evening.paid[g] += worth / Integer.bitCount(done.standing);
            }
        }
        return done.standing;
    }

    int play() {
        if (evening.plays) {
            return NOT;
        }
        evening.plays = true;
        evening.standing = 0;
        Arrays.fill(evening.seat, NONE);
        Arrays.fill(evening.holder, NONE);
        return evening.minutes;
    }

    int keep(int k) {
        if (k != 0 && k != 1) {
            return UNKNOWN;
        }
        kept[k] = evening.copy();
        return evening.minutes;
    }

    int back(int k) {
        if (k != 0 && k != 1) {
            return UNKNOWN;
        }
        if (kept[k] == null) {
            return NOT;
        }
        evening = kept[k].copy();
        return evening.minutes;
    }

    int standing(int t) {
        return noMinute(t) ? OUTSIDE : foretold(inn, t, all(inn)).standing;
    }

    int odds(int guest, int a, int b, int part) {
        if (noGuest(guest)) {
            return UNKNOWN;
        }
        if (noSpan(a, b) || part < 0 || part > 1) {
            return OUTSIDE;
        }
        int above = times(inn, a, b)[guest];
        int below = b - a + 1;
        for (int d = below; d > 1; d--) {
            if (above % d == 0 && below % d == 0) {
                above /= d;
                below /= d;
            }
        }
        return part == 0 ? above : below;
    }

    int surest(int guest, int a, int b, int what) {
        if (noGuest(guest)) {
            return UNKNOWN;
        }
        if (noSpan(a, b) || what < 0 || what > 2) {
            return OUTSIDE;
        }
        int[] best = {NONE, NONE, 1000};
        for (int pace = 0; pace < 4; pace++) {
            for (int way = 0; way < 2; way++) {
                Inn other = inn.copy();
                other.guests().set(guest, other.guests().get(guest).walking(pace, way));
                int times = times(other, a, b)[guest];
                if (times < best[2]) {
                    best = new int[] {pace, way, times};
                }
            }
        }
        return best[what];
    }

    private Inn paced(int set) {
        Inn other = inn.copy();
        for (int g = 0; g < other.guests().size(); g++) {
            other.guests().set(g, inn.guests().get(g).walking(set >> g & 1, inn.guests().get(g).way()));
        }
        return other;
    }

    int still(int a, int b, int what) {
        if (noSpan(a, b) || what < 0 || what > 1) {
            return OUTSIDE;
        }
        int found = 0;
        int first = NONE;
        int guests = inn.guests().size();
        int[][] times = new int[1 << guests][];
        for (int set = 0; set < 1 << guests; set++) {
            times[set] = times(paced(set), a, b);
        }
        for (int set = 0; set < 1 << guests; set++) {
            boolean isStill = true;
            for (int g = 0; g < guests; g++) {
                isStill &= times[set ^ 1 << g][g] >= times[set][g];
            }
            if (isStill) {
                found++;
                first = first == NONE ? set : first;
            }
        }
        return what == 0 ? found : first;
    }

    int plot(int guest, int friends, int t, int what) {
        if (noGuest(guest) || friends < 0 || friends >= 1 << inn.guests().size() || (friends >> guest & 1) == 1) {
            return UNKNOWN;
        }
        if (noMinute(t) || what < 0 || what > 1) {
            return OUTSIDE;
        }
        for (int size = 0; size <= 6; size++) {
            for (int set = 0; set < 64; set++) {
                if (Integer.bitCount(set) != size || (set | friends) != friends) {
                    continue;
                }
                Inn other = inn.copy();
                for (int g = 0; g < other.guests().size(); g++) {
                    if ((set >> g & 1) == 1) {
                        other.guests().set(g, other.guests().get(g).walking(0, 0));
                    }
                }
                if ((foretold(other, t, all(other)).standing >> guest & 1) == 1) {
                    return what == 0 ? size : set;
                }
            }
        }
        return NONE;
    }

    int price(int t) {
        if (noMinute(t)) {
            return OUTSIDE;
        }
        Outcome done = foretold(inn, t, all(inn));
        int price = 0;
        for (int g : all(inn)) {
            if (done.second && (done.standing >> g & 1) == 1) {
                price = Math.max(price, inn.guests().get(g).worth());
            }
        }
        return price;
    }

    int laid(int chairs, int a, int b, int what) {
        if (chairs < 0 || chairs > 12 || chairs > inn.places() || noSpan(a, b) || what < 0 || what > 1) {
            return OUTSIDE;
        }
        int best = Integer.MAX_VALUE;
        int bestSet = NONE;
        for (int set = 0; set < 1 << inn.places(); set++) {
            if (Integer.bitCount(set) != chairs) {
                continue;
            }
            Inn other = inn.copy();
            for (int c = 0; c < inn.places(); c++) {
                other.chairs()[c] = (set >> c & 1) == 1;
            }
            int[] times = times(other, a, b);
            Arrays.sort(times);
            int apart = times.length == 0 ? 0 : times[times.length - 1] - times[0];
            if (apart < best) {
                best = apart;
                bestSet = set;
            }
        }
        return what == 0 ? best : bestSet;
    }

    int left(int t, int what) {
        if (noMinute(t) || what < 0 || what > 1) {
            return OUTSIDE;
        }
        Inn now = inn.copy();
        List<Integer> among = all(inn);
        int stops = 0;
        while (among.size() > 1) {
            int standing = foretold(now, t, among).standing;
            stops++;
            if (standing == 0) {
                break;
            }
            among.removeIf(g -> (standing >> g & 1) == 1);
            for (int c = 0; c < now.places(); c++) {
                if (now.chairs()[c]) {
                    now.chairs()[c] = false;
                    break;
                }
            }
        }
        int who = 0;
        for (int g : among) {
            who |= 1 << g;
        }
        return what == 0 ? who : stops;
    }

    int seen(int guest, int stood) {
        if (noGuest(guest)) {
            return UNKNOWN;
        }
        if (stood < 0 || stood > 1) {
            return OUTSIDE;
        }
        if (seen.size() == 6) {
            return FULL;
        }
        seen.add(new int[] {guest, stood});
        return seen.size();
    }

    int forget() {
        int had = seen.size();
        seen.clear();
        return had;
    }

    int fits(int what) {
        if (what < 0 || what > 1) {
            return OUTSIDE;
        }
        int number = 0;
        int first = NONE;
        for (int t = 0; t < 100; t++) {
            int standing = foretold(inn, t, all(inn)).standing;
            if (seen.stream().allMatch(one -> (standing >> one[0] & 1) == one[1])) {
                number++;
                first = first == NONE ? t : first;
            }
        }
        return what == 0 ? number : first;
    }

    int count(int what) {
        int chairs = 0;
        for (int c = 0; c < inn.places(); c++) {
            chairs |= inn.chairs()[c] ? 1 << c : 0;
        }
        return switch (what) {
            case 0 -> inn.places();
            case 1 -> inn.guests().size();
            case 2 -> chairs;
            case 3 -> evening.minutes;
            case 4 -> evening.plays ? 1 : 0;
            case 5 -> evening.standing;
            case 6 -> seen.size();
            case 7 -> text.length();
            default -> OUTSIDE;
        };
    }
}
