/** The edges of promises 1 to 5 and of what the document's Terms say of texts: a part for each sentence. */
public final class TextEdgesTest {
    private static final int NONE = -1, UNKNOWN = -2, OUTSIDE = -3, NOT = -4, FULL = -5;
    private static final String[] KINDS = {"plain", "sly", "faint", "stout"};
    private static final String[] WORDS = {"inn", "chair", "take", "plain", "sly", "faint", "stout", "nobody"};
    private static final int[] NUMBERS_NEEDED = {1, 1, 1, 4, 4, 4, 4, 0};
    private static final Check CHECK = new Check("edges of texts");

    public static void main(String[] args) {
        placesAreThreeToTwelve();
        placesAreEightAtFirst();
        chairsAreNoneAtFirstAndOneAtEachAtMost();
        aChairThatIsThereIsAFault();
        aChairThatIsNotThereCannotBeTaken();
        guestsAreSixAtMost();
        aSeventhGuestIsAFaultAtItsWord();
        guestsAreNumberedAsTheyCome();
        placesPacesWaysAndWorthsHaveBounds();
        placesAreThoseBehindTheLinesAhead();
        bytesAreTwoHundredAtMost();
        writeTakesOneToEightBytes();
        byteIIsShiftedByEightI();
        everyByteIsLetterDigitBlankOrOther();
        linesAreTwelveAtMost();
        semicolonsStandBetweenLines();
        eachWordHasItsNumbers();
        wordsAreWhole();
        numbersHaveOneOrTwoDigits();
        blanksStandBetween();
        theFirstFaultIsTold();
        theEndMayComeTooSoon();
        linesAreDoneInTheirOrder();
        innTakesChairsAndGuestsAway();
        nobodyTakesGuestsAlone();
        behindTheLinesAllBeginsAnew();
        innTellsHowManyLines();
        eraseTellsHowManyBytes();
        CHECK.end();
    }

    private static void due(String what, long got, long want) {
        CHECK.due(what, got, want);
    }

    private static void fault(String ahead, String text, int want) {
        OneTooFew x = ahead.isEmpty() ? new OneTooFew() : Check.told(ahead);
        Check.write(x, text);
        due("fault of '" + text + "' behind '" + ahead + "'", x.fault(), want);
        due("inn of '" + text + "' behind '" + ahead + "'", x.inn() < 0 ? NOT : 0, want == NONE ? 0 : NOT);
    }

    private static void fault(String text, int want) {
        fault("", text, want);
    }

    private static String lines(String line, int number) {
        return line + (";" + line).repeat(number - 1);
    }

    /** "PLACES are 0 .. p less 1 in a ring (p 3 .. 12". */
    private static void placesAreThreeToTwelve() {
        for (int p = 0; p <= 99; p++) {
            boolean isTaken = p >= 3 && p <= 12;
            fault("inn " + p, isTaken ? NONE : 4);
            if (isTaken) {
                OneTooFew x = Check.told("inn " + p);
                due("places of inn " + p, x.count(0), p);
                due("the first place of inn " + p, x.place(0, 0), 0);
                due("below the first place of inn " + p, x.place(-1, 0), UNKNOWN);
                due("the last place of inn " + p, x.place(p - 1, 0), 0);
                due("behind the last place of inn " + p, x.place(p, 0), UNKNOWN);
            }
        }
    }

    /** "8 at first", and promise 1: "Eight PLACES, no CHAIRS, nobody." */
    private static void placesAreEightAtFirst() {
        OneTooFew x = new OneTooFew();
        due("places at first", x.count(0), 8);
        due("the last place at first", x.place(7, 0), 0);
        due("behind the last place at first", x.place(8, 0), UNKNOWN);
        for (int place = 0; place < 8; place++) {
            due("no chair at " + place, x.place(place, 0), 0);
            due("nobody sits at " + place, x.place(place, 1), NONE);
            due("nobody is at " + place, x.place(place, 2), 0);
        }
        due("chairs at first", x.count(2), 0);
        due("guests at first", x.count(1), 0);
        due("guest 0 at first", x.guest(0, 0), UNKNOWN);
        due("minutes at first", x.count(3), 0);
        due("the music plays at first", x.count(4), 1);
        due("nobody is standing at first", x.count(5), 0);
        due("nothing is seen at first", x.count(6), 0);
        due("no text at first", x.count(7), 0);
        due("nothing is kept at first", x.back(0), NOT);
        due("nothing is kept at first", x.back(1), NOT);
        fault("chair 7", NONE);
        fault("chair 8", 6);
        fault("take 7", 5);
        fault("sly 7 0 0 0", NONE);
        fault("sly 8 0 0 0", 4);
    }

    /** "CHAIRS are at some of them (none at first), one at each at most." */
    private static void chairsAreNoneAtFirstAndOneAtEachAtMost() {
        StringBuilder eleven = new StringBuilder("inn 12");
        for (int place = 0; place < 11; place++) {
            eleven.append(";chair ").append(place);
        }
        OneTooFew x = Check.told(eleven.toString());
        due("eleven chairs", x.count(2), 2047);
        due("no chair at 11", x.place(11, 0), 0);
        Check.write(x, "chair 11");
        x.inn();
        due("chairs at all places", x.count(2), 4095);
        for (int place = 0; place < 12; place++) {
            due("a chair at " + place, x.place(place, 0), 1);
            Check.write(x, "chair " + place);
            due("no second chair at " + place, x.fault(), 6);
            x.erase();
        }
        for (int place = 0; place < 12; place++) {
            Check.write(x, "take " + place);
            due("the chair at " + place + " goes", x.inn(), 1);
            due("it is gone from " + place, x.place(place, 0), 0);
        }
        due("no chair is left", x.count(2), 0);
    }

    /** "chair: one is at A (one that is there: a FAULT at A)". */
    private static void aChairThatIsThereIsAFault() {
        fault("chair 1;chair 1", 14);
        fault("chair 1;chair 2", NONE);
        fault("chair 1;  chair   01", 18);
        fault("chair 1", "chair 1", 6);
        fault("chair 1", "chair 0", NONE);
        fault("chair 1", "take 1;chair 1", NONE);
        fault("chair 1", "take 1;chair 1;chair 1", 21);
        fault("chair 1", "inn 8;chair 1", NONE);
        fault("chair 1", "nobody;chair 1", 13);
        fault("inn 12;chair 11", "chair 11", 6);
        fault("inn 12;chair 0", "chair 0", 6);
    }

    /** "take: none is (none is there: a FAULT at A)". */
    private static void aChairThatIsNotThereCannotBeTaken() {
        fault("take 0", 5);
        fault("chair 0;take 0", NONE);
        fault("chair 0;take 1", 13);
        fault("chair 0;take 0;take 0", 20);
        fault("chair 0", "take 0", NONE);
        fault("chair 0", "take 7", 5);
        fault("chair 0", "inn 8;take 0", 11);
        fault("chair 0", "nobody;take 0", NONE);
        fault("inn 12;chair 11", "take 11", NONE);
        fault("inn 12;chair 11", "take 10", 5);
    }

    /** "GUESTS are 0, 1 .. as they come, 6 at most (none at first)". */
    private static void guestsAreSixAtMost() {
        for (int number = 1; number <= 6; number++) {
            OneTooFew x = Check.told(lines("sly 0 0 0 0", number));
            due("guests", x.count(1), number);
            due("guest 0 of " + number, x.guest(0, 0), 1);
            due("the last of " + number, x.guest(number - 1, 0), 1);
            due("behind the last of " + number, x.guest(number, 0), UNKNOWN);
            due("below the first of " + number, x.guest(-1, 0), UNKNOWN);
        }
        OneTooFew x = new OneTooFew();
        for (int number = 1; number <= 6; number++) {
            Check.write(x, "stout 7 0 0 0");
            due("one more by a text of his own", x.inn(), 1);
            due("guests", x.count(1), number);
        }
        Check.write(x, "stout 7 0 0 0");
        due("a seventh by a text of his own", x.inn(), NOT);
        due("six", x.count(1), 6);
    }

    /** "a seventh cannot stand there (at its word)". */
    private static void aSeventhGuestIsAFaultAtItsWord() {
        String six = lines("sly 0 0 0 0", 6);
        String five = lines("sly 0 0 0 0", 5);
        for (String kind : KINDS) {
            fault(six + ";" + kind + " 0 0 0 0", 72);
            fault(six + "; " + kind, 73);
            fault(six + ";" + kind + " 99 x", 72);
            fault(six, kind + " 0 0 0 0", 0);
            fault(five, kind + " 0 0 0 0", NONE);
            fault(five, kind + " 0 0 0 0;" + kind + " 0 0 0 0", 9 + kind.length());
            fault(six + ";nobody;" + kind + " 0 0 0 0", NONE);
            fault(six + ";inn 8;" + kind + " 0 0 0 0", NONE);
            fault(six, "nobody;" + kind + " 0 0 0 0", NONE);
        }
        fault(six, "chair 0", NONE);
        fault(six, "nobody;" + six, NONE);
        fault(six, "nobody;" + six + ";plain 0 0 0 0", 79);
    }

    /** "GUESTS are 0, 1 .. as they come". */
    private static void guestsAreNumberedAsTheyCome() {
        OneTooFew x = Check.told("stout 1 0 0 10;faint 2 0 0 20;sly 3 0 0 30");
        Check.write(x, "plain 4 0 0 40");
        x.inn();
        for (int guest = 0; guest < 4; guest++) {
            due("kind of guest " + guest, x.guest(guest, 0), 3 - guest);
            due("place of guest " + guest, x.guest(guest, 1), guest + 1);
            due("worth of guest " + guest, x.guest(guest, 4), 10 * guest + 10);
        }
        Check.write(x, "nobody;faint 5 0 0 50");
        x.inn();
        due("behind nobody the first is 0 again", x.guest(0, 1), 5);
        due("he is the only one", x.guest(1, 1), UNKNOWN);
    }

    /** "at a PLACE at first, of a PACE (0 .. 3 ..), a WAY (0 .. 1 ..), a WORTH (0 .. 99)". */
    private static void placesPacesWaysAndWorthsHaveBounds() {
        int[] most = {10, 3, 1, 99};
        int[] what = {1, 2, 3, 4};
        for (int which = 0; which < 4; which++) {
            for (int number = 0; number <= 100; number++) {
                for (String kind : KINDS) {
                    String text = kind + " 0".repeat(which) + " " + number + " 0".repeat(3 - which);
                    boolean isTaken = number <= most[which];
                    fault("inn 11", text, isTaken ? NONE : kind.length() + 1 + 2 * which);
                    if (isTaken) {
                        due("what " + text + " tells", Check.told("inn 11;" + text).guest(0, what[which]), number);
                    }
                }
            }
        }
    }

    /** "A a PLACE that there is behind the LINES ahead". */
    private static void placesAreThoseBehindTheLinesAhead() {
        for (int p = 3; p <= 12; p++) {
            String inn = "inn " + p;
            String last = String.valueOf(p - 1);
            String next = String.valueOf(p);
            int from = inn.length() + 1;
            fault(inn + ";chair " + last, NONE);
            fault(inn + ";chair " + next, from + 6);
            fault(inn + ";chair " + last + ";take " + last, NONE);
            fault(inn + ";take " + next, from + 5);
            fault(inn + ";plain " + last + " 0 0 0", NONE);
            fault(inn + ";plain " + next + " 0 0 0", from + 6);
            fault(inn, "chair " + last, NONE);
            fault(inn, "chair " + next, 6);
            fault(inn, "stout " + last + " 0 0 0", NONE);
            fault(inn, "stout " + next + " 0 0 0", 6);
        }
        fault("inn 12", "inn 3;chair 3", 12);
        fault("inn 3", "inn 12;chair 11", NONE);
        fault("inn 3", "chair 3;inn 12", 6);
        fault("inn 12", "chair 11;inn 3", NONE);
        fault("chair 8;inn 9", 6);
    }

    private static OneTooFew withBytes(int number) {
        OneTooFew x = new OneTooFew();
        Check.write(x, " ".repeat(number));
        return x;
    }

    /** "THE TEXT is a row of bytes, 200 at most", and promise 2's FULL. */
    private static void bytesAreTwoHundredAtMost() {
        for (int n = 1; n <= 8; n++) {
            OneTooFew x = withBytes(200 - n);
            due(n + " up to 200", x.write(-1, n), 200);
            due("200 bytes", x.count(7), 200);
            due("the last of them is there", x.fault(), 200 - n);
            due("one above 200", x.write(-1, 1), FULL);
            x = withBytes(201 - n);
            due(n + " up to 201", x.write(-1, n), FULL);
            due("none of them came", x.count(7), 201 - n);
            due("none of them is read", x.fault(), 201 - n);
        }
        OneTooFew x = withBytes(200);
        x.erase();
        due("behind erase there is room", x.write(0, 8), 8);
        x = withBytes(194);
        Check.write(x, "nobody");
        due("a text of 200 bytes is done", x.inn(), 1);
        due("behind inn there is room", x.write(0, 8), 8);
    }

    /** "n (1 .. 8) bytes more of THE TEXT .. how many it has. OUTSIDE". */
    private static void writeTakesOneToEightBytes() {
        int[] wrong = {0, 9, -1, -8, 10, 16, 200, 255, 256, 257, Integer.MAX_VALUE, Integer.MIN_VALUE};
        for (int n : wrong) {
            OneTooFew x = withBytes(5);
            due("n " + n, x.write(0, n), OUTSIDE);
            due("nothing came by n " + n, x.count(7), 5);
        }
        for (int n = 1; n <= 8; n++) {
            OneTooFew x = withBytes(5);
            due("n " + n, x.write(0, n), 5 + n);
            due(n + " came", x.count(7), 5 + n);
        }
    }

    /** "byte i being bytes >> 8 i & 255". */
    private static void byteIIsShiftedByEightI() {
        String text = "plain 0 0 0 47";
        for (int ahead = 0; ahead < 8; ahead++) {
            due("worth behind " + ahead + " blanks", Check.told(" ".repeat(ahead) + text).guest(0, 4), 47);
        }
        for (int n = 1; n <= 8; n++) {
            OneTooFew x = new OneTooFew();
            x.write(0x3b79646f626f6eL, 7);
            x.write(0x3b3b3b3b3b3b3b3bL, n);
            due("only the bytes below n count, n " + n, x.count(7), 7 + n);
            x.erase();
            long blanks = 0x2020202020202020L;
            long aboveN = n == 8 ? 0 : -1L << 8 * n;
            x.write(blanks | aboveN, n);
            due("bits above byte n are not read, n " + n, x.fault(), n);
        }
        OneTooFew x = new OneTooFew();
        x.write(0x8020202020202020L, 8);
        due("the highest byte is 128", x.fault(), 7);
    }

    /** "a row of small letters, a row of digits, any other byte". */
    private static void everyByteIsLetterDigitBlankOrOther() {
        for (int b = 0; b < 256; b++) {
            boolean isLetter = b >= 97 && b <= 122;
            boolean isDigit = b >= 48 && b <= 57;
            String sign = String.valueOf((char) b);
            int blankOr = b == 32 ? NONE : 6;
            fault("nobody" + sign, isLetter ? 0 : b == 59 ? 7 : blankOr);
            fault("inn 9" + sign, isDigit ? 4 : b == 59 ? 6 : b == 32 ? NONE : 5);
            fault(sign, b == 32 ? 1 : 0);
            boolean isPlace = b >= 48 && b <= 55;
            fault("chair " + sign, isPlace ? NONE : b == 32 ? 7 : 6);
        }
        for (char c = 'a'; c <= 'z'; c++) {
            fault("inn 3 ;nobody" + c, 7);
            fault("chair 1" + c, 7);
        }
    }

    /** "LINES with ; (59) between, 12 at most". */
    private static void linesAreTwelveAtMost() {
        for (int number = 1; number <= 28; number++) {
            fault(lines("nobody", number), number <= 12 ? NONE : 83);
        }
        fault(lines("inn 3", 12), NONE);
        fault(lines("inn 3", 13), 71);
        fault(lines("nobody", 12) + ";", 83);
        fault(lines("nobody", 12) + "  ;  ", 85);
        fault(lines("nobody", 12) + "  ", NONE);
        fault(lines("nobody", 12) + " x", 84);
        fault(lines("nobody", 11) + ";x", 77);
        OneTooFew x = new OneTooFew();
        for (int text = 0; text < 3; text++) {
            Check.write(x, lines("nobody", 12));
            due("twelve in each text", x.inn(), 12);
        }
    }

    /** "LINES with ; (59) between". */
    private static void semicolonsStandBetweenLines() {
        fault(";", 0);
        fault(" ; ", 1);
        fault(";nobody", 0);
        fault("nobody;", 7);
        fault("nobody; ", 8);
        fault("nobody;;nobody", 7);
        fault("nobody; ;nobody", 8);
        fault("nobody;nobody", NONE);
        fault("nobody ; nobody", NONE);
        fault("nobody nobody", 7);
        fault("nobody:nobody", 6);
        fault("nobody<nobody", 6);
        fault("nobody,nobody", 6);
        fault("inn 3.", 5);
        fault("inn 3 inn 3", 6);
    }

    /** "each is one of: inn P. chair A. take A. plain A V W X. .. nobody." */
    private static void eachWordHasItsNumbers() {
        for (int word = 0; word < WORDS.length; word++) {
            String ahead = WORDS[word].equals("take") ? "chair 3" : "inn 8";
            int needed = NUMBERS_NEEDED[word];
            for (int given = 0; given <= 6; given++) {
                StringBuilder text = new StringBuilder(WORDS[word]);
                for (int i = 0; i < given; i++) {
                    text.append(i == 0 ? " 3" : " 1");
                }
                int tooMany = WORDS[word].length() + 1 + 2 * needed;
                int atEnd = given < needed ? text.length() : NONE;
                fault(ahead, text.toString(), given > needed ? tooMany : atEnd);
                int atSemicolon = given < needed ? text.length() : NONE;
                fault(ahead, text + ";nobody", given > needed ? tooMany : atSemicolon);
                fault(ahead, text + " nobody", given > needed ? tooMany : text.length() + 1);
            }
        }
    }

    /** "small letters a .. z": a word is one of the eight, or it cannot stand there. */
    private static void wordsAreWhole() {
        for (int word = 0; word < WORDS.length; word++) {
            String name = WORDS[word];
            String ahead = name.equals("take") ? "chair 3" : "";
            String rest = " 3 1 1 1".substring(0, 2 * NUMBERS_NEEDED[word]);
            fault(ahead, name + rest, NONE);
            fault(ahead, name.substring(1) + rest, 0);
            fault(ahead, name.substring(0, name.length() - 1) + rest, 0);
            fault(ahead, name + "a" + rest, 0);
            fault(ahead, "a" + name + rest, 0);
            fault(ahead, name + name + rest, 0);
            fault(ahead, name.toUpperCase() + rest, 0);
            for (int at = 0; at < name.length(); at++) {
                char other = name.charAt(at) == 'q' ? 'z' : 'q';
                fault(ahead, name.substring(0, at) + other + name.substring(at + 1) + rest, 0);
                if (at > 0) {
                    fault(ahead, name.substring(0, at) + " " + name.substring(at) + rest, 0);
                }
            }
        }
    }

    /** "numbers of 1 or 2 digits", "a number .. of more digits, also". */
    private static void numbersHaveOneOrTwoDigits() {
        fault("inn 3", NONE);
        fault("inn 03", NONE);
        fault("inn 003", 4);
        fault("inn 12", NONE);
        fault("inn 012", 4);
        fault("inn 120", 4);
        fault("inn " + "0".repeat(195) + "3", 4);
        fault("inn 4294967299", 4);
        fault("chair 0", NONE);
        fault("chair 00", NONE);
        fault("chair 000", 6);
        fault("chair 4294967296", 6);
        fault("take 000", 5);
        fault("plain 00 00 00 00", NONE);
        fault("plain 000 0 0 0", 6);
        fault("plain 0 000 0 0", 8);
        fault("plain 0 0 000 0", 10);
        fault("plain 0 0 0 000", 12);
        fault("plain 0 0 0 099", 12);
        fault("plain 0 0 0 99", NONE);
        fault("plain 0 0 0 100", 12);
        fault("inn 1 2", 4);
        fault("inn -3", 4);
        fault("inn +3", 4);
    }

    /** "blanks (32) between". */
    private static void blanksStandBetween() {
        fault("inn 5;chair 4", NONE);
        fault("   inn    5   ;   chair    4   ", NONE);
        fault("inn5;chair4", NONE);
        fault("plain0 0 0 0", NONE);
        fault("plain0000", 5);
        fault("plain00 0 0", 11);
        char[] others = {0, 9, 10, 11, 12, 13, 31, 33, 95, 127, 128, 160, 255};
        for (char other : others) {
            fault("inn" + other + "5", 3);
            fault(other + "inn 5", 0);
            fault("inn 5" + other, 5);
            fault("inn 5;" + other + "chair 4", 6);
        }
        fault(" ".repeat(196) + "inn3", NONE);
        fault("inn" + " ".repeat(196) + "3", NONE);
        fault("inn3" + " ".repeat(196), NONE);
    }

    /** "A FAULT is at the first TOKEN .. that cannot stand there". */
    private static void theFirstFaultIsTold() {
        fault("inn 2;chair 99;x", 4);
        fault("inn 3;chair 99;x", 12);
        fault("inn 3;chair 2;x;y", 14);
        fault("plain 8 4 2 100", 6);
        fault("plain 7 4 2 100", 8);
        fault("plain 7 3 2 100", 10);
        fault("plain 7 3 1 100", 12);
        fault("plain 7 3 1 99 x", 15);
        fault("chair 1;chair 1 x", 14);
        fault("chair 9 x", 6);
        fault("take 1 x", 5);
        fault("   x", 3);
        fault("nobody   abc", 9);
        fault("nobody   123", 9);
        fault("nobody   ...", 9);
    }

    /** "or at the end, if it comes too soon", and promise 4: "or the length". */
    private static void theEndMayComeTooSoon() {
        fault("", 0);
        for (int blanks = 1; blanks <= 200; blanks += 199) {
            fault(" ".repeat(blanks), blanks);
        }
        fault("inn", 3);
        fault("inn   ", 6);
        fault("chair ", 6);
        fault("take ", 5);
        fault("plain 0 0 0", 11);
        fault("plain 0 0 0  ", 13);
        fault("nobody;", 7);
        fault("nobody;  ", 9);
        fault(" ".repeat(197) + "inn", 200);
        fault(" ".repeat(193) + "nobody;", 200);
        fault(" ".repeat(194) + "nobody", NONE);
    }

    /** "LINES are done in their order." */
    private static void linesAreDoneInTheirOrder() {
        fault("chair 1;take 1;chair 1;take 1", NONE);
        fault("take 1;chair 1", 5);
        OneTooFew x = Check.told("chair 1;plain 0 0 0 0;inn 5;chair 2;sly 1 0 0 0;nobody;faint 3 1 1 9");
        due("places of the last inn", x.count(0), 5);
        due("chairs behind it", x.count(2), 4);
        due("guests behind nobody", x.count(1), 1);
        due("the last guest", x.guest(0, 0), 2);
        x = Check.told("chair 1;chair 2;take 1;chair 3;take 2");
        due("chairs put and taken", x.count(2), 8);
        x = Check.told("sly 1 0 0 0;inn 4");
        due("inn behind a guest", x.count(1), 0);
        x = Check.told("chair 1;inn 4");
        due("inn behind a chair", x.count(2), 0);
    }

    /** "inn: P PLACES, no CHAIRS, no GUESTS". */
    private static void innTakesChairsAndGuestsAway() {
        OneTooFew x = Check.told("chair 0;chair 7;" + lines("stout 7 3 1 99", 6));
        Check.write(x, "inn 8");
        due("one line", x.inn(), 1);
        due("as many places", x.count(0), 8);
        due("no chairs", x.count(2), 0);
        due("no guests", x.count(1), 0);
        due("nobody is at 7", x.place(7, 2), 0);
        due("no guest 0", x.guest(0, 0), UNKNOWN);
        Check.write(x, "inn 3");
        x.inn();
        due("three places", x.place(3, 0), UNKNOWN);
    }

    /** "nobody: no GUESTS". */
    private static void nobodyTakesGuestsAlone() {
        OneTooFew x = Check.told("inn 5;chair 4;chair 0;sly 4 1 0 5");
        Check.write(x, "nobody");
        due("one line", x.inn(), 1);
        due("no guests", x.count(1), 0);
        due("no guest 0", x.guest(0, 0), UNKNOWN);
        due("nobody is at 4", x.place(4, 2), 0);
        due("chairs stay", x.count(2), 17);
        due("places stay", x.count(0), 5);
        Check.write(x, "nobody;nobody");
        due("without guests, too", x.inn(), 2);
    }

    /** An evening in which all that a text ends is otherwise than at its begin. */
    private static OneTooFew late() {
        OneTooFew x = Check.told("inn 7;chair 3;stout 2 1 0 50;plain 0 2 1 10;faint 6 3 0 1");
        x.walk(9);
        x.stop();
        x.keep(0);
        x.play();
        x.keep(1);
        x.walk(1);
        x.stop();
        x.seen(1, 1);
        x.seen(0, 0);
        return x;
    }

    /** "Behind them it is MINUTE 0, all are at their PLACES, the music plays, nobody has paid, nothing is SEEN, ..". */
    private static void behindTheLinesAllBeginsAnew() {
        String[] texts = {"chair 0", "take 3", "faint 6 0 0 0", "chair 0;take 0"};
        for (String text : texts) {
            OneTooFew x = late();
            due("it is late", x.count(3), 10);
            CHECK.holds("some have paid", x.guest(0, 6) + x.guest(1, 6) > 0);
            Check.write(x, text);
            CHECK.holds("it is done: " + text, x.inn() > 0);
            due("minute 0", x.count(3), 0);
            int[] places = {2, 0, 6};
            for (int guest = 0; guest < 3; guest++) {
                due("guest " + guest + " is at his place", x.guest(guest, 1), places[guest]);
                due("guest " + guest + " does not sit", x.guest(guest, 5), NONE);
                due("guest " + guest + " has not paid", x.guest(guest, 6), 0);
            }
            for (int place = 0; place < 7; place++) {
                due("nobody sits at " + place, x.place(place, 1), NONE);
            }
            due("the music plays", x.count(4), 1);
            due("nobody is standing", x.count(5), 0);
            due("nothing is seen", x.count(6), 0);
            due("all minutes fit", x.fits(0), 100);
            due("nothing is kept in 0", x.back(0), NOT);
            due("nothing is kept in 1", x.back(1), NOT);
        }
    }

    /** Promise 5: "THE TEXT's LINES are done, and it is empty then: how many there were. NOT: it has a FAULT." */
    private static void innTellsHowManyLines() {
        for (int number = 1; number <= 12; number++) {
            OneTooFew x = new OneTooFew();
            Check.write(x, lines("inn 3", number));
            due("lines", x.inn(), number);
            due("the text is empty", x.count(7), 0);
            due("the text is empty", x.fault(), 0);
            due("an empty text has a fault", x.inn(), NOT);
        }
        OneTooFew x = late();
        Check.write(x, "inn 5;chair 4;chair 4");
        due("a fault", x.inn(), NOT);
        due("the text stays", x.count(7), 21);
        due("places stay", x.count(0), 7);
        due("chairs stay", x.count(2), 8);
        due("guests stay", x.count(1), 3);
        due("minutes stay", x.count(3), 10);
        due("it has stopped still", x.count(4), 0);
        due("what was seen stays", x.count(6), 2);
        due("what was kept stays", x.back(0), 9);
        due("what was kept stays", x.back(1), 9);
    }

    /** Promise 3: "THE TEXT is empty: how many bytes it had." */
    private static void eraseTellsHowManyBytes() {
        for (int number = 0; number <= 200; number++) {
            OneTooFew x = withBytes(number);
            due("bytes erased", x.erase(), number);
            due("none is left", x.count(7), 0);
            due("none is left", x.erase(), 0);
            due("an empty text", x.fault(), 0);
        }
        OneTooFew x = new OneTooFew();
        Check.write(x, "inn 4;chair 1;chair 1");
        x.erase();
        Check.write(x, "inn 4");
        due("what was erased is not read", x.inn(), 1);
        due("no chair of it", x.count(2), 0);
    }
}
