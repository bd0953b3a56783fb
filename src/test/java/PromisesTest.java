/** One part for each promise of the document: ordinary calls, the edges that it names, and wrong ones. */
public final class PromisesTest {
    private static final int NONE = -1, UNKNOWN = -2, OUTSIDE = -3, NOT = -4, FULL = -5;
    private static final int[] WILD = {Integer.MIN_VALUE, -100, -6, -1, 0, 1, 2, 5, 6, 11, 12, 13, 31, 32, 63, 64, 99,
        100, 4095, 4096, 9999, Integer.MAX_VALUE};
    private static final Check CHECK = new Check("promises");

    public static void main(String[] args) {
        constants();
        promise01();
        promise02();
        promise03();
        promise04Words();
        promise04Numbers();
        promise04Signs();
        promise05();
        promise06();
        promise07();
        promise08();
        promise09();
        promise10();
        promise11();
        promise12And13();
        promise14();
        promise15();
        promise16();
        promise17();
        promise18();
        promise19();
        promise20();
        promise21();
        promise22And23();
        promise24();
        promise25();
        wildNumbers();
        CHECK.end();
    }

    private static void due(String what, long got, long want) {
        CHECK.due(what, got, want);
    }

    private static void constants() {
        due("NONE", OneTooFew.NONE, -1);
        due("UNKNOWN", OneTooFew.UNKNOWN, -2);
        due("OUTSIDE", OneTooFew.OUTSIDE, -3);
        due("NOT", OneTooFew.NOT, -4);
        due("FULL", OneTooFew.FULL, -5);
    }

    private static void promise01() {
        OneTooFew x = new OneTooFew();
        int[] counts = {8, 0, 0, 0, 1, 0, 0, 0};
        for (int what = 0; what < counts.length; what++) {
            due("1: count " + what, x.count(what), counts[what]);
        }
        for (int place = 0; place < 8; place++) {
            due("1: no chair at " + place, x.place(place, 0), 0);
            due("1: nobody sits at " + place, x.place(place, 1), NONE);
            due("1: nobody is at " + place, x.place(place, 2), 0);
        }
        due("1: place 8", x.place(8, 0), UNKNOWN);
        due("1: guest 0", x.guest(0, 0), UNKNOWN);
        due("1: back", x.back(0), NOT);
    }

    private static void promise02() {
        OneTooFew x = new OneTooFew();
        due("2: n 0", x.write(0, 0), OUTSIDE);
        due("2: n 9", x.write(0, 9), OUTSIDE);
        due("2: n below 0", x.write(0, -1), OUTSIDE);
        due("2: nothing came", x.count(7), 0);
        due("2: only n bytes count", x.write(0x7a7a7a7a7a6e6e69L, 3), 3);
        due("2: lowest byte first", x.fault(), 3);
        due("2: more", x.write(0xff33L, 1), 4);
        due("2: inn3", x.inn(), 1);
        due("2: it was inn 3", x.count(0), 3);
        for (int i = 1; i <= 24; i++) {
            due("2: eight more", x.write(0xffffffffffffffffL, 8), 8 * i);
        }
        due("2: 199", x.write(-1, 7), 199);
        due("2: 201 are too many", x.write(-1, 2), FULL);
        due("2: wrong n ahead of full", x.write(-1, 9), OUTSIDE);
        due("2: nothing of them came", x.count(7), 199);
        due("2: 200", x.write(-1, 1), 200);
        due("2: full", x.write(-1, 1), FULL);
        due("2: byte 255 is no letter", x.fault(), 0);
    }

    private static void promise03() {
        OneTooFew x = new OneTooFew();
        due("3: nothing", x.erase(), 0);
        Check.write(x, "nobody;nob");
        due("3: ten", x.erase(), 10);
        due("3: none left", x.count(7), 0);
        due("3: none left", x.erase(), 0);
        Check.write(x, "nobody");
        due("3: a text anew", x.inn(), 1);
        due("3: inn has emptied it", x.erase(), 0);
    }

    private static void fault(String ahead, String text, int want) {
        OneTooFew x = ahead.isEmpty() ? new OneTooFew() : Check.told(ahead);
        Check.write(x, text);
        int places = x.count(0);
        int guests = x.count(1);
        due("4: fault of '" + text + "' behind '" + ahead + "'", x.fault(), want);
        due("4: it changes no bytes", x.count(7), text.length());
        due("4: it changes no places", x.count(0), places);
        due("4: it changes no guests", x.count(1), guests);
        due("5: inn goes by the fault of " + text, x.inn() < 0 ? NOT : 0, want == NONE ? 0 : NOT);
    }

    private static void promise04Words() {
        String four = ";sly 0 0 0 0;sly 0 0 0 0;sly 0 0 0 0;sly 0 0 0 0";
        String six = "sly 0 0 0 0;sly 0 0 0 0" + four;
        fault("", "", 0);
        fault("", "   ", 3);
        fault("", "nobody", NONE);
        fault("", "nobod", 0);
        fault("", "nobodyy", 0);
        fault("", "nobodyz", 0);
        fault("", "anobody", 0);
        fault("", "xobody", 0);
        fault("", "no body", 0);
        fault("", "Nobody", 0);
        fault("", "guest 0 0 0 0", 0);
        fault("", "7", 0);
        fault("", ";nobody", 0);
        fault("", "nobody;", 7);
        fault("", "nobody; ", 8);
        fault("", "nobody;;nobody", 7);
        fault("", "nobody nobody", 7);
        fault("", "nobody 1", 7);
        fault("", "inn 3 3", 6);
        fault("", "inn;", 3);
        fault("", "inn chair", 4);
        fault("", "plain 0 0 0 0 0", 14);
        fault("", "plain 0 0 0", 11);
        fault("", "plain 0 0 0;", 11);
        fault("", "plain 0 0 0 0;sly 1 1 1 1;faint 2 2 0 2;stout 3 3 1 99", NONE);
        fault("", six, NONE);
        fault("", six + ";plain", 72);
        fault("", six + ";nobody;plain 0 0 0 0", NONE);
        fault("", six + ";inn 4;plain 0 0 0 0", NONE);
        fault(six, " stout 0 0 0 0", 1);
        fault(six, "nobody" + four, NONE);
        String twelve = "nobody" + ";nobody".repeat(11);
        fault("", twelve, NONE);
        fault("", twelve + " ", NONE);
        fault("", twelve + " ;nobody", 84);
        fault("", twelve + ";", 83);
        fault("", twelve + "x", 77);
    }

    private static void promise04Numbers() {
        fault("", "inn 2", 4);
        fault("", "inn 3", NONE);
        fault("", "inn 12", NONE);
        fault("", "inn 13", 4);
        fault("", "inn 03", NONE);
        fault("", "inn 003", 4);
        fault("", "inn 0", 4);
        fault("", "chair 7", NONE);
        fault("", "chair 8", 6);
        fault("", "inn 9;chair 8", NONE);
        fault("", "inn 7;chair 7", 12);
        fault("inn 9", "chair 8", NONE);
        fault("inn 9", "inn 8;chair 8", 12);
        fault("", "chair 1;chair 1", 14);
        fault("", "chair 1;chair 01", 14);
        fault("chair 1", "chair 1", 6);
        fault("chair 1", "take 1;chair 1", NONE);
        fault("chair 1", "inn 8;chair 1", NONE);
        fault("chair 1", "inn 8;take 1", 11);
        fault("chair 1", "nobody;take 1", NONE);
        fault("", "take 0", 5);
        fault("", "chair 0;take 0;take 0", 20);
        fault("", "take 8", 5);
        fault("", "plain 8 0 0 0", 6);
        fault("", "plain 0 4 0 0", 8);
        fault("", "plain 0 0 2 0", 10);
        fault("", "plain 0 0 0 100", 12);
        fault("", "plain 7 3 1 99", NONE);
        fault("", "plain 07 03 01 00", NONE);
        fault("", "plain 0 00 000 0", 11);
        fault("", "sly 0 99 0 0", 6);
    }

    private static void promise04Signs() {
        fault("", "  inn   5  ;  chair   4  ", NONE);
        fault("", "inn5;chair4;plain0 0 0 0", NONE);
        fault("", "plain0000", 5);
        fault("", "inn\t5", 3);
        fault("", "inn\n5", 3);
        fault("", "inn -5", 4);
        fault("", "inn 5.", 5);
        fault("", "inn 5x", 5);
        fault("", "inn 5:nobody", 5);
        fault("", "inn 5\u0000", 5);
        fault("", "inn \u00ff", 4);
        fault("", "\u0080", 0);
        fault("", "chair `", 6);
        fault("", "chair {", 6);
        fault("", "chair /", 6);
        fault("", "i nn 5", 0);
        fault("", " ".repeat(200), 200);
        fault("", " ".repeat(194) + "nobody", NONE);
        fault("", "nobody" + " ".repeat(194), NONE);
        fault("", " ".repeat(196) + "inn9", NONE);
        fault("", " ".repeat(197) + "inn", 200);
        fault("", " ".repeat(193) + "nobody;", 200);
        fault("", " ".repeat(193) + "nobody.", 199);
        fault("", "z".repeat(200), 0);
        fault("", "inn " + "7".repeat(196), 4);
    }

    private static void promise05() {
        OneTooFew x = new OneTooFew();
        due("5: an empty text", x.inn(), NOT);
        Check.write(x, "inn 5;chair 4;sly 1 2 0 3;chair 4");
        due("5: a fault", x.inn(), NOT);
        due("5: nothing was done", x.count(0), 8);
        due("5: nobody came", x.count(1), 0);
        due("5: the text stays", x.erase(), 33);
        Check.write(x, "inn 5;chair 4;sly 1 2 0 3");
        due("5: three lines", x.inn(), 3);
        due("5: five places", x.count(0), 5);
        due("5: chairs", x.count(2), 16);
        due("5: guests", x.count(1), 1);
        due("5: no text", x.count(7), 0);
        due("5: no text twice", x.inn(), NOT);
        x.walk(1);
        x.keep(1);
        x.seen(0, 1);
        Check.write(x, "take 4;plain 2 0 0 50");
        x.stop();
        due("5: one sits", x.guest(0, 5), 4);
        due("5: two lines more", x.inn(), 2);
        due("5: minute 0", x.count(3), 0);
        due("5: all are at their places", x.guest(0, 1), 1);
        due("5: nobody sits", x.guest(0, 5), NONE);
        due("5: nobody sits there", x.place(4, 1), NONE);
        due("5: it plays", x.count(4), 1);
        due("5: nothing is seen", x.count(6), 0);
        due("5: nothing is kept", x.back(1), NOT);
        due("5: both guests", x.count(1), 2);
        due("5: all stand", x.stop(), 3);
        due("5: one pays", x.guest(1, 6), 26);
        Check.write(x, "chair 0");
        x.inn();
        due("5: nobody has paid", x.guest(1, 6), 0);
        due("5: nobody stands now", x.count(5), 0);
        Check.write(x, "inn 3");
        x.inn();
        due("5: inn: no guests", x.count(1), 0);
        due("5: inn: no chairs", x.count(2), 0);
        Check.write(x, "sly 1 2 0 3;sly 1 2 0 3;chair 2");
        x.inn();
        due("5: guests and chairs stay", x.count(1), 2);
        Check.write(x, "nobody");
        x.inn();
        due("5: nobody: no guests", x.count(1), 0);
        due("5: nobody: chairs stay", x.count(2), 4);
    }

    private static void promise06() {
        OneTooFew x = Check.told("inn 6;chair 1;chair 2;chair 4;stout 0 0 0 1;plain 0 0 0 1;plain 4 1 0 1");
        due("6: a chair", x.place(1, 0), 1);
        due("6: no chair", x.place(0, 0), 0);
        due("6: two are there", x.place(0, 2), 3);
        due("6: one is there", x.place(4, 2), 4);
        due("6: nobody sits", x.place(4, 1), NONE);
        due("6: no such place", x.place(6, 0), UNKNOWN);
        due("6: no such place", x.place(-1, 9), UNKNOWN);
        due("6: no such what", x.place(5, 3), OUTSIDE);
        due("6: no such what", x.place(5, -1), OUTSIDE);
        due("6: one is left standing", x.stop(), 2);
        due("6: a stout one on his first", x.place(1, 1), 0);
        due("6: and on his second", x.place(2, 1), 0);
        due("6: the other one", x.place(4, 1), 2);
        due("6: no chair, nobody sits", x.place(0, 1), NONE);
        due("6: a stout one is at his first", x.place(1, 2), 1);
        due("6: not at his second", x.place(2, 2), 0);
        due("6: who stands is where he was", x.place(0, 2), 2);
        x.play();
        due("6: nobody sits when it plays", x.place(1, 1), NONE);
    }

    private static void promise07() {
        OneTooFew x = Check.told("inn 12;chair 11;faint 11 3 1 7;stout 3 2 0 99;sly 0 1 0 0;plain 5 0 1 10");
        int[][] want = {{2, 11, 3, 1, 7, NONE, 0}, {3, 3, 2, 0, 99, NONE, 0}, {1, 0, 1, 0, 0, NONE, 0},
            {0, 5, 0, 1, 10, NONE, 0}};
        for (int guest = 0; guest < 4; guest++) {
            for (int what = 0; what < 7; what++) {
                due("7: guest " + guest + " " + what, x.guest(guest, what), want[guest][what]);
            }
        }
        due("7: no such guest", x.guest(4, 0), UNKNOWN);
        due("7: no such guest", x.guest(-1, 7), UNKNOWN);
        due("7: no such what", x.guest(0, 7), OUTSIDE);
        due("7: no such what", x.guest(0, -1), OUTSIDE);
        x.walk(2);
        due("7: back over 0", x.guest(0, 1), 5);
        due("7: on", x.guest(1, 1), 7);
        due("7: on", x.guest(2, 1), 2);
        due("7: he does not walk", x.guest(3, 1), 5);
        due("7: sly 2 and stout 7 from 11", x.stop(), 10);
        due("7: the sly one sits", x.guest(2, 5), 11);
        due("7: and is there", x.guest(2, 1), 11);
        due("7: half of 116", x.guest(1, 6), 58);
        due("7: half of 116", x.guest(3, 6), 58);
        due("7: who sits does not pay", x.guest(2, 6), 0);
        due("7: a faint one does not pay", x.guest(0, 6), 0);
        due("7: a faint one does not sit", x.guest(0, 5), NONE);
        x.play();
        x.stop();
        due("7: he has paid twice", x.guest(3, 6), 116);
    }

    private static void promise08() {
        OneTooFew x = Check.told("inn 9;chair 2;plain 0 1 0 1;sly 0 1 0 1;faint 0 1 0 1;stout 0 1 0 1");
        int[][] want = {{102, 102, NOT, NOT, NOT}, {101, 101, 101, NOT, NOT}, {102, 102, NOT, 102, NOT},
            {102, NOT, NOT, NOT, 102}};
        for (int guest = 0; guest < 4; guest++) {
            for (int kind = 0; kind < 5; kind++) {
                due("8: guest " + guest + " as " + kind, x.as(guest, kind), want[guest][kind]);
            }
        }
        due("8: no such guest", x.as(4, 0), UNKNOWN);
        due("8: no such guest, no such kind", x.as(-1, 5), UNKNOWN);
        due("8: no such kind", x.as(0, 5), OUTSIDE);
        due("8: no such kind", x.as(0, -1), OUTSIDE);
        x.walk(2);
        due("8: a sly one on the spot", x.as(1, 0), 99);
        x.walk(5);
        due("8: the shorter way over 0", x.as(0, 0), 104);
        x.stop();
        due("8: a chair counts though one sits on it", x.as(0, 0), 104);
        due("8: from where he sits", x.as(1, 0), 99);
        Check.write(x, "take 2");
        x.inn();
        due("8: no chairs", x.as(0, 0), NONE);
        due("8: no chairs, none such", x.as(0, 4), NOT);
    }

    private static void promise09() {
        OneTooFew x = Check.told("inn 5;plain 0 3 0 1;plain 0 2 1 1;plain 4 1 0 1");
        due("9: n 0", x.walk(0), OUTSIDE);
        due("9: n 100", x.walk(100), OUTSIDE);
        due("9: nothing was walked", x.count(3), 0);
        due("9: one", x.walk(1), 1);
        due("9: pace 3 on", x.guest(0, 1), 3);
        due("9: pace 2 back", x.guest(1, 1), 3);
        due("9: behind the last one 0", x.guest(2, 1), 0);
        due("9: in all", x.walk(2), 3);
        due("9: pace 3 on", x.guest(0, 1), 4);
        due("9: pace 2 back", x.guest(1, 1), 4);
        x.stop();
        due("9: it has stopped", x.walk(1), NOT);
        due("9: wrong ahead of stopped", x.walk(0), OUTSIDE);
        x.play();
        for (int i = 0; i < 100; i++) {
            x.walk(99);
        }
        due("9: 9903", x.count(3), 9903);
        due("9: 97 are too many", x.walk(97), FULL);
        due("9: nothing was walked", x.count(3), 9903);
        due("9: 9999", x.walk(96), 9999);
        due("9: one more is too many", x.walk(1), FULL);
        due("9: he stands after 9999 times 3", x.guest(0, 1), 29997 % 5);
        x.stop();
        due("9: stopped ahead of full", x.walk(1), NOT);
    }

    private static void promise10() {
        OneTooFew x = Check.told("inn 8;chair 2;plain 4 0 0 9;plain 0 0 0 2");
        due("10: alike far, the least guest", x.stop(), 2);
        due("10: once", x.stop(), NOT);
        due("10: he pays all", x.guest(1, 6), 11);
        x = Check.told("inn 8;chair 2;plain 5 0 0 9;plain 0 0 0 2");
        due("10: the nearer one sits", x.stop(), 1);
        x = Check.told("inn 8;chair 2;chair 6;plain 4 0 0 1");
        x.stop();
        due("10: alike far, the least place", x.guest(0, 5), 2);
        x = Check.told("inn 8;chair 7;chair 2;plain 0 0 0 1");
        x.stop();
        due("10: the shorter way over 0", x.guest(0, 5), 7);
        x = Check.told("inn 8;chair 2;plain 3 0 0 1;sly 0 0 0 1");
        due("10: sly is 1 nearer: alike, the least guest", x.stop(), 2);
        x = Check.told("inn 8;chair 2;plain 4 0 0 1;sly 0 0 0 1");
        due("10: sly is 1 nearer", x.stop(), 1);
        x = Check.told("inn 8;chair 0;plain 0 0 0 1;sly 0 0 0 1");
        due("10: sly is nearer than on the spot", x.stop(), 1);
        x = Check.told("inn 8;chair 2;faint 2 0 0 50;plain 6 0 0 5");
        due("10: faint ones sit behind all, and do not stand", x.stop(), 0);
        due("10: the plain one sits", x.guest(1, 5), 2);
        due("10: the faint one does not", x.guest(0, 5), NONE);
        x = Check.told("inn 8;chair 2;chair 3;faint 2 0 0 50;faint 3 0 0 5;plain 2 0 0 1");
        x.stop();
        due("10: of faint ones the nearest one sits", x.guest(1, 5), 3);
        due("10: the other one does not", x.guest(0, 5), NONE);
        x = Check.told("inn 9;chair 1;chair 4;chair 7;stout 4 0 0 1;plain 0 0 0 30;plain 8 0 0 2");
        due("10: stout takes the nearest to his, the least place", x.stop(), 2);
        due("10: on both", x.place(1, 1), 0);
        due("10: what is left", x.guest(2, 5), 7);
        x = Check.told("inn 8;chair 1;chair 5;stout 1 0 0 1;plain 5 1 0 1;plain 1 0 0 1");
        x.walk(4);
        due("10: stout takes a second one right over the ring", x.stop(), 6);
        x = Check.told("inn 9;chair 4;stout 4 0 0 1");
        due("10: no second chair", x.stop(), 0);
        x = Check.told("inn 9;chair 3;chair 4;stout 5 0 0 1;plain 4 0 0 1");
        due("10: stout behind a nearer one has one chair", x.stop(), 0);
        due("10: his", x.place(3, 1), 0);
        x = Check.told("inn 9;plain 5 0 0 10;plain 4 0 0 5;sly 1 0 0 5");
        due("10: no chairs", x.stop(), 7);
        due("10: a third, cut", x.guest(2, 6), 6);
        x = Check.told("inn 9;chair 0;chair 8;plain 2 0 0 0;plain 4 0 0 0");
        x.stop();
        due("10: 2 to 0 first", x.guest(0, 5), 0);
        due("10: then 4 to 8", x.guest(1, 5), 8);
    }

    private static void promise11() {
        OneTooFew x = Check.told("inn 7;chair 3;plain 2 1 0 5;plain 0 1 0 6;faint 6 1 0 1");
        due("11: it plays", x.play(), NOT);
        x.walk(14);
        due("11: one stands", x.stop(), 2);
        due("11: minutes", x.play(), 14);
        due("11: twice", x.play(), NOT);
        due("11: nobody sits", x.guest(0, 5), NONE);
        due("11: up where he sat", x.guest(0, 1), 3);
        due("11: who stood is where he was", x.guest(1, 1), 0);
        due("11: a faint one is where he was", x.guest(2, 1), 6);
        due("11: nobody is standing now", x.count(5), 0);
        x.walk(1);
        due("11: on from there", x.guest(0, 1), 4);
        due("11: what was told stays told", x.standing(14), 2);
        due("11: he has paid", x.guest(1, 6), 12);
    }

    private static void promise12And13() {
        OneTooFew x = Check.told("inn 7;chair 3;chair 4;stout 2 1 0 5;plain 0 1 0 6");
        due("12: no such k", x.keep(2), UNKNOWN);
        due("12: no such k", x.keep(-1), UNKNOWN);
        due("13: no such k", x.back(2), UNKNOWN);
        due("13: nothing kept", x.back(0), NOT);
        due("12: kept in 1", x.keep(1), 0);
        due("13: nothing kept in 0", x.back(0), NOT);
        x.walk(14);
        due("12: minutes", x.keep(0), 14);
        due("13: one stands", x.stop(), 2);
        x.seen(1, 1);
        due("13: minutes", x.back(0), 14);
        due("13: it plays", x.count(4), 1);
        due("13: nobody has paid", x.guest(1, 6), 0);
        due("13: nobody sits", x.place(3, 1), NONE);
        due("13: what was seen is not kept", x.count(6), 1);
        x.stop();
        due("12: while it has stopped", x.keep(0), 14);
        x.play();
        x.walk(5);
        due("13: from the begin", x.back(1), 0);
        due("13: places", x.guest(0, 1), 2);
        due("13: as it had stopped", x.back(0), 14);
        due("13: it has stopped", x.count(4), 0);
        due("13: who stands", x.count(5), 2);
        due("13: who sits", x.place(3, 1), 0);
        due("13: who sits on the second one", x.place(4, 1), 0);
        due("13: where he sits", x.guest(0, 5), 3);
        due("13: has paid", x.guest(1, 6), 11);
        x.play();
        x.stop();
        due("13: it goes on from there", x.guest(1, 6), 22);
        due("13: again", x.back(0), 14);
        due("13: what was kept has not gone on", x.guest(1, 6), 11);
        Check.write(x, "nobodyy");
        x.inn();
        due("13: a text with a fault takes nothing", x.back(1), 0);
        x.erase();
        Check.write(x, "nobody");
        x.inn();
        due("13: nothing kept since the text", x.back(0), NOT);
        due("13: nothing kept since the text", x.back(1), NOT);
    }

    private static void promise14() {
        OneTooFew x = Check.told("inn 4;chair 0;plain 0 1 0 1;plain 1 2 1 1");
        due("14: t below 0", x.standing(-1), OUTSIDE);
        due("14: t 100", x.standing(100), OUTSIDE);
        int[] want = {2, 2, 1, 2};
        for (int t = 0; t < 100; t++) {
            due("14: standing at " + t, x.standing(t), want[t % 4]);
        }
        x.walk(3);
        x.stop();
        due("14: from the begin, not from now", x.standing(2), 1);
        due("14: nothing changes", x.count(5), 2);
        due("14: nothing changes", x.guest(0, 5), 0);
        due("14: nothing is paid", x.guest(0, 6), 0);
    }

    private static void promise15() {
        OneTooFew x = Check.told("inn 4;chair 0;plain 0 1 0 1;plain 1 2 1 1");
        due("15: one of four", x.odds(0, 0, 99, 0), 1);
        due("15: one of four", x.odds(0, 0, 99, 1), 4);
        due("15: three of four", x.odds(1, 4, 7, 0), 3);
        due("15: none", x.odds(0, 3, 5, 0), 0);
        due("15: none of one", x.odds(0, 3, 5, 1), 1);
        due("15: all", x.odds(1, 3, 5, 0), 1);
        due("15: all", x.odds(1, 3, 5, 1), 1);
        due("15: two of five", x.odds(0, 2, 6, 0), 2);
        due("15: two of five", x.odds(0, 2, 6, 1), 5);
        due("15: one minute", x.odds(0, 98, 98, 0), 1);
        due("15: no such guest", x.odds(2, 5, 4, 2), UNKNOWN);
        due("15: no such guest", x.odds(-1, 0, 0, 0), UNKNOWN);
        due("15: b below a", x.odds(0, 5, 4, 0), OUTSIDE);
        due("15: a below 0", x.odds(0, -1, 4, 0), OUTSIDE);
        due("15: b 100", x.odds(0, 0, 100, 0), OUTSIDE);
        due("15: part 2", x.odds(0, 0, 4, 2), OUTSIDE);
        due("15: part below 0", x.odds(0, 0, 4, -1), OUTSIDE);
    }

    private static void promise16() {
        OneTooFew x = Check.told("inn 4;chair 0;plain 0 1 0 1;plain 2 0 0 1");
        due("16: he stands still at 0", x.surest(0, 0, 7, 0), 0);
        due("16: on, the least way", x.surest(0, 0, 7, 1), 0);
        due("16: never", x.surest(0, 0, 7, 2), 0);
        due("16: no such guest", x.surest(2, 5, 4, 9), UNKNOWN);
        due("16: what 3", x.surest(0, 0, 7, 3), OUTSIDE);
        due("16: what below 0", x.surest(0, 0, 7, -1), OUTSIDE);
        due("16: b below a", x.surest(0, 7, 6, 0), OUTSIDE);
        due("16: b 100", x.surest(0, 0, 100, 0), OUTSIDE);
        x = Check.told("inn 7;chair 0;plain 2 0 0 1;plain 5 0 0 1");
        due("16: at minute 1 one place on is enough", x.surest(1, 1, 1, 0), 1);
        due("16: on from 5", x.surest(1, 1, 1, 1), 0);
        due("16: at minute 0 nothing helps", x.surest(1, 0, 0, 2), 1);
        due("16: of several the least pace", x.surest(1, 0, 0, 0), 0);
        x = Check.told("inn 9;chair 0;plain 2 0 0 1;plain 3 0 0 1");
        due("16: back", x.surest(1, 1, 1, 1), 1);
        due("16: two", x.surest(1, 1, 1, 0), 2);
        due("16: never", x.surest(1, 1, 1, 2), 0);
        x = Check.told("inn 12;chair 0;plain 2 0 0 1;plain 4 0 0 1");
        due("16: three back", x.surest(1, 1, 1, 0), 3);
        due("16: back", x.surest(1, 1, 1, 1), 1);
        Check.write(x, "take 0");
        x.inn();
        due("16: without chairs always", x.surest(0, 0, 99, 2), 100);
        due("16: by pace 0", x.surest(0, 0, 99, 0), 0);
        x = Check.told("inn 9;chair 0;plain 2 0 0 1;plain 3 0 0 1");
        x.surest(1, 1, 1, 0);
        due("16: nothing changes", x.guest(1, 2), 0);
        due("16: nothing changes", x.standing(1), 2);
    }

    private static void promise17() {
        OneTooFew x = new OneTooFew();
        due("17: without guests one row", x.still(0, 99, 0), 1);
        due("17: without guests the row 0", x.still(0, 99, 1), 0);
        due("17: b below a", x.still(1, 0, 0), OUTSIDE);
        due("17: a below 0", x.still(-1, 0, 0), OUTSIDE);
        due("17: what 2", x.still(0, 0, 2), OUTSIDE);
        x = Check.told("inn 8;chair 2;plain 0 3 0 1;plain 4 2 1 1");
        // At minute 1 each is 1 nearer with pace 1, and of two alike near ones the first sits.
        due("17: rows at minute 1", x.still(1, 1, 0), 2);
        due("17: the first is 1 for guest 0 alone", x.still(1, 1, 1), 1);
        due("17: at minute 0 all rows", x.still(0, 0, 0), 4);
        due("17: nothing changes", x.guest(0, 2), 3);
        // Guest 0 is surest when he walks as guest 1 does, guest 1 when he walks otherwise.
        x = Check.told("inn 4;chair 0;stout 1 1 1 1;plain 1 3 1 1");
        due("17: none", x.still(0, 3, 0), 0);
        due("17: no first", x.still(0, 3, 1), NONE);
        x = Check.told("inn 6;chair 0;chair 3;sly 1 0 0 1;stout 2 0 0 1;plain 4 0 1 1;faint 0 0 0 1");
        Model m = modelOf("inn 6;chair 0;chair 3;sly 1 0 0 1;stout 2 0 0 1;plain 4 0 1 1;faint 0 0 0 1");
        for (int b = 0; b < 12; b++) {
            due("17: as the model to " + b, x.still(0, b, 0), m.still(0, b, 0));
            due("17: first as the model to " + b, x.still(0, b, 1), m.still(0, b, 1));
        }
    }

    private static Model modelOf(String text) {
        Model m = new Model();
        m.text = text;
        m.inn();
        return m;
    }

    private static void promise18() {
        // At minute 1 guests 1 and 2 walk off from the chair's places, guest 0 comes to his.
        OneTooFew x = Check.told("inn 9;chair 1;chair 2;plain 0 1 0 1;plain 1 3 0 1;plain 2 3 0 1;faint 1 3 0 1");
        due("18: both must stand still", x.plot(0, 6, 1, 0), NONE);
        x = Check.told("inn 9;chair 1;chair 2;plain 8 1 0 1;plain 1 3 0 1;plain 2 3 0 1;faint 1 3 0 1");
        due("18: two", x.plot(0, 6, 1, 0), 2);
        due("18: both", x.plot(0, 6, 1, 1), 6);
        due("18: one friend alone", x.plot(0, 2, 1, 1), NONE);
        due("18: no friends", x.plot(0, 0, 1, 0), NONE);
        due("18: a faint friend adds nothing", x.plot(0, 14, 1, 1), 6);
        due("18: he is left without a sign", x.plot(2, 1, 1, 0), 0);
        due("18: the empty set", x.plot(2, 1, 1, 1), 0);
        x = Check.told("inn 9;chair 1;plain 8 1 0 1;plain 1 3 0 1;plain 1 3 0 1");
        due("18: one is enough", x.plot(0, 6, 1, 0), 1);
        due("18: of several the least set", x.plot(0, 6, 1, 1), 2);
        due("18: the other one alone", x.plot(0, 4, 1, 1), 4);
        due("18: he is one of it", x.plot(0, 1, 1, 0), UNKNOWN);
        due("18: no such guest", x.plot(3, 1, 100, 0), UNKNOWN);
        due("18: a set with no such guest", x.plot(0, 8, 1, 0), UNKNOWN);
        due("18: a set below 0", x.plot(0, -2, 1, 0), UNKNOWN);
        due("18: t 100", x.plot(0, 2, 100, 0), OUTSIDE);
        due("18: t below 0", x.plot(0, 2, -1, 0), OUTSIDE);
        due("18: what 2", x.plot(0, 2, 1, 2), OUTSIDE);
        due("18: nothing changes", x.standing(1), 6);
    }

    private static void promise19() {
        OneTooFew x = Check.told("inn 9;chair 1;chair 2;stout 1 0 0 50;plain 0 0 0 7;sly 6 0 0 9;faint 1 0 0 80");
        due("19: the greatest of those standing", x.price(0), 9);
        due("19: t 100", x.price(100), OUTSIDE);
        due("19: t below 0", x.price(-1), OUTSIDE);
        x = Check.told("inn 9;chair 1;chair 2;stout 1 0 0 50;faint 1 0 0 80");
        due("19: nobody is standing", x.price(0), 0);
        x = Check.told("inn 9;chair 1;chair 2;stout 4 0 0 50;plain 2 0 0 7;plain 3 0 0 8");
        due("19: no stout one has a second", x.price(0), 0);
        due("19: a stout one stands", x.standing(0), 1);
        x = Check.told("inn 9;chair 1;chair 2;stout 2 1 0 5;plain 0 1 0 7;plain 8 0 0 8");
        due("19: at minute 0 he has it", x.price(0), 8);
        due("19: at minute 1 he has not", x.price(1), 0);
        x = Check.told("inn 9;chair 1;chair 2;plain 5 0 0 7;stout 1 0 0 5");
        due("19: of guest 0", x.price(0), 7);
    }

    private static void promise20() {
        OneTooFew x = new OneTooFew();
        due("20: without guests", x.laid(3, 0, 9, 0), 0);
        due("20: without guests the least set", x.laid(3, 0, 9, 1), 7);
        due("20: c as many as places", x.laid(8, 0, 9, 1), 255);
        due("20: c above places", x.laid(9, 0, 9, 1), OUTSIDE);
        due("20: c below 0", x.laid(-1, 0, 9, 1), OUTSIDE);
        due("20: c 13", x.laid(13, 0, 9, 1), OUTSIDE);
        due("20: b below a", x.laid(1, 9, 8, 1), OUTSIDE);
        due("20: b 100", x.laid(1, 9, 100, 1), OUTSIDE);
        due("20: what 2", x.laid(1, 0, 9, 2), OUTSIDE);
        x = Check.told("inn 12;chair 5");
        due("20: c 12", x.laid(12, 0, 9, 1), 4095);
        due("20: c 13", x.laid(13, 0, 9, 1), OUTSIDE);
        // Two who stand still on 0 and 2: one chair always leaves the same one.
        x = Check.told("inn 4;chair 1;plain 0 0 0 1;plain 2 0 0 1");
        due("20: one is always left", x.laid(1, 0, 9, 0), 10);
        due("20: the least set", x.laid(1, 0, 9, 1), 1);
        due("20: no chair", x.laid(0, 0, 9, 0), 0);
        due("20: no chair", x.laid(0, 0, 9, 1), 0);
        due("20: two chairs", x.laid(2, 0, 9, 1), 3);
        due("20: nothing changes", x.count(2), 2);
        // A faint one never stands: without a chair he and the other one are far apart.
        x = Check.told("inn 4;plain 0 0 0 1;faint 2 0 0 1");
        due("20: a faint one counts as a guest", x.laid(0, 0, 9, 0), 10);
        due("20: in all minutes", x.laid(0, 0, 99, 0), 100);
        due("20: in all minutes", x.laid(0, 0, 99, 1), 0);
        // The stout one takes both chairs at 0 and 1, or 0 and 2, but not at 1 and 2.
        x = Check.told("inn 6;stout 0 0 0 1;plain 1 0 0 1");
        due("20: a later set is better", x.laid(2, 0, 0, 0), 0);
        due("20: at 1 and 2", x.laid(2, 0, 0, 1), 6);
        x = Check.told("inn 6;plain 0 0 0 1;plain 1 0 0 1");
        due("20: all stand always", x.laid(0, 0, 99, 0), 0);
        // Guest 1 walks round: a chair at 0 is never his, one at 1 or 3 once in four, one at 2 three times.
        x = Check.told("inn 4;plain 0 0 0 1;plain 0 1 0 1");
        due("20: most alike", x.laid(1, 0, 3, 0), 2);
        due("20: the least set by which it is", x.laid(1, 0, 3, 1), 2);
        due("20: in minutes 1 and 2 the chair at 1 is each one's once", x.laid(1, 1, 2, 0), 0);
        due("20: by the chair at 1", x.laid(1, 1, 2, 1), 2);
    }

    private static void promise21() {
        OneTooFew x = new OneTooFew();
        due("21: nobody", x.left(0, 0), 0);
        due("21: no stop", x.left(0, 1), 0);
        due("21: t 100", x.left(100, 0), OUTSIDE);
        due("21: t below 0", x.left(-1, 0), OUTSIDE);
        due("21: what 2", x.left(0, 2), OUTSIDE);
        x = Check.told("inn 9;plain 0 0 0 1");
        due("21: one guest", x.left(0, 0), 1);
        due("21: no stop for one", x.left(0, 1), 0);
        x = Check.told("inn 9;chair 0;chair 4;plain 0 0 0 1;plain 4 0 0 1;plain 2 1 0 1");
        due("21: the chair at the least place goes, and who sat there", x.left(0, 0), 2);
        due("21: two stops", x.left(0, 1), 2);
        due("21: at minute 2 guest 2 is alike near, the least one sits", x.left(2, 0), 2);
        x = Check.told("inn 9;chair 0;chair 4;plain 0 0 0 1;plain 5 0 0 1;plain 2 1 0 1");
        due("21: at minute 2 guest 2 sits on 4", x.left(2, 0), 4);
        x = Check.told("inn 9;chair 0;chair 4;plain 0 0 0 1;plain 4 0 0 1");
        due("21: nobody goes out", x.left(0, 0), 3);
        due("21: after one stop", x.left(0, 1), 1);
        x = Check.told("inn 9;plain 0 0 0 1;plain 4 0 0 1");
        due("21: all go out", x.left(0, 0), 0);
        due("21: at once", x.left(0, 1), 1);
        x = Check.told("inn 9;chair 2;faint 0 0 0 1;faint 4 0 0 1;plain 2 0 0 1;plain 3 0 0 1");
        due("21: faint ones never go", x.left(0, 0), 3);
        due("21: two go, then nobody", x.left(0, 1), 3);
        due("21: nothing changes", x.count(2), 4);
        due("21: nothing changes", x.count(1), 4);
        x = Check.told("inn 12;chair 0;chair 1;chair 2;chair 3;chair 4;plain 0 0 0 1;plain 1 0 0 1;plain 2 0 0 1;"
            + "plain 3 0 0 1;plain 4 0 0 1;plain 8 0 0 1");
        due("21: one at a time", x.left(0, 0), 16);
        due("21: five stops", x.left(0, 1), 5);
    }

    private static void promise22And23() {
        OneTooFew x = Check.told("inn 9;plain 0 0 0 1;plain 4 0 0 1");
        due("23: nothing was seen", x.forget(), 0);
        due("22: no such guest", x.seen(2, 2), UNKNOWN);
        due("22: no such guest", x.seen(-1, 0), UNKNOWN);
        due("22: stood 2", x.seen(0, 2), OUTSIDE);
        due("22: stood below 0", x.seen(0, -1), OUTSIDE);
        for (int i = 1; i <= 6; i++) {
            due("22: seen", x.seen(i % 2, 1), i);
        }
        due("22: a seventh", x.seen(0, 1), FULL);
        due("22: wrong ahead of full", x.seen(0, 2), OUTSIDE);
        due("22: unknown ahead of full", x.seen(2, 0), UNKNOWN);
        due("22: six", x.count(6), 6);
        due("23: six", x.forget(), 6);
        due("23: none", x.forget(), 0);
        due("22: anew", x.seen(0, 0), 1);
        due("23: what was forgotten fits no more", x.fits(0), 0);
    }

    private static void promise24() {
        OneTooFew x = Check.told("inn 4;chair 0;plain 0 1 0 1;plain 1 2 1 1");
        due("24: all fit", x.fits(0), 100);
        due("24: the first", x.fits(1), 0);
        due("24: what 2", x.fits(2), OUTSIDE);
        due("24: what below 0", x.fits(-1), OUTSIDE);
        x.seen(0, 1);
        due("24: every fourth", x.fits(0), 25);
        due("24: the first is 2", x.fits(1), 2);
        x.seen(1, 0);
        due("24: both", x.fits(0), 25);
        x.seen(1, 1);
        due("24: none fits", x.fits(0), 0);
        due("24: no first", x.fits(1), NONE);
        x.forget();
        x.seen(0, 0);
        due("24: the others", x.fits(0), 75);
        x.walk(3);
        due("24: from the begin", x.fits(1), 0);
        x = Check.told("inn 7;chair 0;plain 0 1 0 1;faint 0 0 0 1;plain 3 0 0 1");
        x.seen(1, 1);
        due("24: a faint one never stood", x.fits(0), 0);
        x.forget();
        x.seen(0, 1);
        // 4 is 3 from 0 as guest 2 is, and so is 3: the least guest sits; guest 0 is never farther.
        due("24: never", x.fits(0), 0);
        x = Check.told("inn 7;chair 0;plain 3 0 0 1;plain 0 1 0 1");
        x.seen(1, 1);
        due("24: minutes 3 and 4 of 7, of 100", x.fits(0), 28);
        due("24: the first is 3", x.fits(1), 3);
    }

    private static void promise25() {
        OneTooFew x = Check.told("inn 11;chair 10;chair 0;plain 0 0 0 1;plain 9 0 0 1;plain 5 0 0 1");
        due("25: places", x.count(0), 11);
        due("25: guests", x.count(1), 3);
        due("25: chairs", x.count(2), 1025);
        x.walk(12);
        due("25: minutes", x.count(3), 12);
        due("25: it plays", x.count(4), 1);
        due("25: nobody is standing", x.count(5), 0);
        x.stop();
        due("25: it does not", x.count(4), 0);
        due("25: who is standing", x.count(5), 4);
        x.seen(1, 1);
        x.seen(1, 1);
        due("25: seen", x.count(6), 2);
        Check.write(x, "abc");
        due("25: bytes", x.count(7), 3);
        due("25: what 8", x.count(8), OUTSIDE);
        due("25: what below 0", x.count(-1), OUTSIDE);
        x.play();
        due("25: nobody is standing when it plays", x.count(5), 0);
    }

    /** Nothing may throw, and no answer is below FULL, whatever is asked in whatever state. */
    private static void wildNumbers() {
        String[] texts = {"", "inn 3;stout 0 3 1 99",
            "inn 12;chair 0;chair 4;chair 11;sly 11 3 1 99;stout 0 3 0 99;faint 6 2 1 0;plain 5 1 0 9;stout 7 0 0 1;"
                + "sly 2 2 1 1"};
        for (String text : texts) {
            for (int a : WILD) {
                OneTooFew x = Check.told(text);
                int least = wildOne(x, a);
                for (int b : WILD) {
                    least = Math.min(least, wildTwo(x, a, b));
                }
                CHECK.holds("no answer below FULL for " + a, least >= FULL);
            }
        }
    }

    private static int wildOne(OneTooFew x, int a) {
        int[] answers = {x.write(a, a), x.fault(), x.inn(), x.walk(a), x.stop(), x.keep(a), x.play(), x.back(a),
            x.standing(a), x.price(a), x.fits(a), x.count(a), x.erase(), x.forget()};
        return least(answers);
    }

    private static int wildTwo(OneTooFew x, int a, int b) {
        int[] answers = {x.write(Long.MIN_VALUE, b), x.place(a, b), x.guest(a, b), x.as(a, b), x.left(a, b),
            x.seen(a, b), x.odds(a, b, 99, 0), x.odds(0, a, b, 1), x.surest(a, 0, b, 2), x.surest(0, a, 99, b),
            x.plot(a, b, 5, 0), x.plot(0, 2, a, b), x.plot(b, 6, 1, a), x.laid(a, 98, b, 0), x.laid(1, a, a, b)};
        return Math.min(least(answers), x.still(a, b, 0));
    }

    private static int least(int[] answers) {
        int least = answers[0];
        for (int answer : answers) {
            least = Math.min(least, answer);
        }
        return least;
    }
}
