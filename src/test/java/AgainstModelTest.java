import java.util.Random;

/** Runs of calls, the same each time, on the class and on the model: every answer must be alike. */
public final class AgainstModelTest {
    private static final int RUNS = 3000;
    /** What later calls answer is free. */
    private static final int MOST_CALLS = 512;
    /** As many as the dearest call of a run and a look around behind it need. */
    private static final int CALLS_AT_THE_END = 200;
    private static final String[] WORDS = {"inn", "chair", "take", "plain", "sly", "faint", "stout", "nobody"};

    private final Check check;
    private final Random dice;
    private OneTooFew x;
    private Model m;
    private int run;
    private int calls;

    private AgainstModelTest(Check check, Random dice) {
        this.check = check;
        this.dice = dice;
    }

    public static void main(String[] args) {
        Check check = new Check("against the model");
        AgainstModelTest test = new AgainstModelTest(check, new Random(20261118));
        for (int run = 0; run < RUNS && !check.hasFailed(); run++) {
            test.oneRun(run);
        }
        check.end();
    }

    private void oneRun(int number) {
        run = number;
        calls = 0;
        x = new OneTooFew();
        m = new Model();
        if (run % 10 != 0) {
            tell(wholeInn());
        }
        while (calls < MOST_CALLS - CALLS_AT_THE_END && !check.hasFailed()) {
            oneCall();
            glance();
        }
        lookAround();
        check.holds("at most 512 calls on one object", calls <= MOST_CALLS);
    }

    private int to(int most) {
        return dice.nextInt(most + 1);
    }

    /** A number of 0 to most, now and then one beside it. */
    private int about(int most) {
        int kind = dice.nextInt(40);
        if (kind == 0) {
            return -1;
        }
        if (kind == 1) {
            return most + 1;
        }
        return kind == 2 ? dice.nextInt() : to(most);
    }

    private String wholeInn() {
        int places = 3 + to(9);
        StringBuilder text = new StringBuilder("inn " + places);
        int chairs = to((1 << places) - 1);
        chairs &= dice.nextBoolean() ? to((1 << places) - 1) : -1;
        int lines = 1;
        int guests = to(6);
        for (int c = 0; c < places && lines + guests < 12; c++) {
            if ((chairs >> c & 1) == 1) {
                text.append(";chair ").append(c);
                lines++;
            }
        }
        for (int g = 0; g < guests; g++) {
            text.append(';').append(guestLine(places));
        }
        return text.toString();
    }

    private String guestLine(int places) {
        return WORDS[3 + to(3)] + " " + to(places - 1) + " " + to(3) + " " + to(1) + " " + to(99);
    }

    private String someLine() {
        int places = m.count(0);
        switch (to(9)) {
            case 0:
                return "inn " + (2 + to(11));
            case 1:
            case 2:
                return "chair " + to(places);
            case 3:
                return "take " + to(places);
            case 4:
                return "nobody";
            case 5:
                return WORDS[to(7)] + " ".repeat(to(2)) + to(200);
            default:
                return guestLine(places);
        }
    }

    /** A text as it may be, and half of the time with a byte changed, gone or put in. */
    private String someText() {
        StringBuilder text = new StringBuilder(dice.nextInt(3) == 0 ? wholeInn() : someLine());
        for (int more = to(14); more > 5; more--) {
            text.append(dice.nextInt(9) == 0 ? " ; " : ";").append(someLine());
        }
        if (dice.nextBoolean()) {
            int at = dice.nextInt(text.length());
            char sign = "  ;;09 azA/:`{\u0000\u0080\u00ff".charAt(to(15));
            switch (to(2)) {
                case 0:
                    text.deleteCharAt(at);
                    break;
                case 1:
                    text.insert(at, sign);
                    break;
                default:
                    text.setCharAt(at, sign);
            }
        }
        return text.toString();
    }

    private void tell(String text) {
        for (int from = 0; from < text.length(); from += 8) {
            String piece = text.substring(from, Math.min(text.length(), from + 8));
            long bytes = dice.nextLong();
            for (int i = 0; i < piece.length(); i++) {
                bytes &= ~(255L << 8 * i);
                bytes |= (long) piece.charAt(i) << 8 * i;
            }
            same("write " + piece, x.write(bytes, piece.length()), m.write(bytes, piece.length()));
        }
        same("fault of " + m.text, x.fault(), m.fault());
        same("inn of " + m.text, x.inn(), m.inn());
        if (dice.nextInt(4) != 0) {
            same("erase", x.erase(), m.erase());
        }
    }

    private void same(String call, int got, int want) {
        calls++;
        check.due("run " + run + ", " + call, got, want);
    }

    private void oneCall() {
        int kind = dice.nextInt(100);
        if (kind < 4) {
            tell(dice.nextBoolean() ? wholeInn() : someText());
        } else if (kind < 50) {
            eveningCall();
        } else {
            foretoldCall();
        }
    }

    private void eveningCall() {
        int n = dice.nextInt(9) == 0 ? about(99) : 1 + to(8);
        int k = about(1);
        int guest = about(5);
        int kind = about(4);
        switch (to(8)) {
            case 0, 1 -> same("walk " + n, x.walk(n), m.walk(n));
            case 2 -> same("stop", x.stop(), m.stop());
            case 3 -> same("play", x.play(), m.play());
            case 4 -> same("keep " + k, x.keep(k), m.keep(k));
            case 5 -> same("back " + k, x.back(k), m.back(k));
            case 6 -> same("seen " + guest + " " + k, x.seen(guest, k), m.seen(guest, k));
            case 7 -> {
                if (dice.nextInt(4) == 0) {
                    same("forget", x.forget(), m.forget());
                }
            }
            default -> same("as " + guest + " " + kind, x.as(guest, kind), m.as(guest, kind));
        }
    }

    private void foretoldCall() {
        int guest = dice.nextInt(9) == 0 ? about(6) : to(Math.max(0, m.count(1) - 1));
        int t = about(99);
        int a = dice.nextInt(9) == 0 ? about(99) : to(30);
        int b = dice.nextInt(9) == 0 ? about(99) : Math.min(99, a + to(20));
        int what = about(1);
        int set = about((1 << m.count(1)) - 1);
        set = dice.nextInt(4) == 0 || set < 0 ? set : set & ~(1 << guest);
        String four = " " + guest + " " + a + " " + b + " " + what;
        switch (to(9)) {
            case 0 -> same("standing " + t, x.standing(t), m.standing(t));
            case 1 -> same("odds" + four, x.odds(guest, a, b, what), m.odds(guest, a, b, what));
            case 2 -> {
                int which = about(2);
                same("surest" + four + " " + which, x.surest(guest, a, b, which), m.surest(guest, a, b, which));
            }
            case 3 -> {
                if (dice.nextInt(4) == 0) {
                    same("still" + four, x.still(a, b, what), m.still(a, b, what));
                }
            }
            case 4, 5 -> same("plot " + guest + " " + set + " " + t + " " + what,
                    x.plot(guest, set, t, what), m.plot(guest, set, t, what));
            case 6 -> same("price " + t, x.price(t), m.price(t));
            case 7 -> {
                int chairs = about(m.count(0));
                if (dice.nextInt(12) == 0) {
                    same("laid " + chairs + four, x.laid(chairs, a, b, what), m.laid(chairs, a, b, what));
                }
            }
            case 8 -> same("left " + t + " " + what, x.left(t, what), m.left(t, what));
            default -> same("fits " + what, x.fits(what), m.fits(what));
        }
    }

    /** A little of the state. */
    private void glance() {
        int what = to(7);
        int place = to(11);
        int guest = to(5);
        same("count " + what, x.count(what), m.count(what));
        same("place " + place + " " + what, x.place(place, what), m.place(place, what));
        same("guest " + guest + " " + what, x.guest(guest, what), m.guest(guest, what));
    }

    /** All that can be seen of the state: a call that must change nothing is caught here. */
    private void lookAround() {
        for (int what = -1; what <= 8; what++) {
            same("count " + what, x.count(what), m.count(what));
        }
        for (int place = -1; place <= 12; place++) {
            for (int what = -1; what <= 3; what++) {
                same("place " + place + " " + what, x.place(place, what), m.place(place, what));
            }
        }
        for (int guest = -1; guest <= 6; guest++) {
            for (int what = -1; what <= 7; what++) {
                same("guest " + guest + " " + what, x.guest(guest, what), m.guest(guest, what));
            }
        }
    }
}
