import java.util.Random;

/** Promises 6 to 8: the tape, the text of a town, its faults. */
public final class TextTest {
    private static final String FOUR = "t1;f1;f2;f3;f4;";
    private static final Due due = new Due("TextTest");

    public static void main(String[] args) {
        theTapeIsFed();
        townsAreRead();
        aTownStandsInPlaceOfTheOneBefore();
        faultsAreTold();
        aFaultLeavesAllButTheTape();
        drawnTextsAreReadAsByTheModel();
        due.close();
    }

    private static void theTapeIsFed() {
        FootLights x = new FootLights();
        due.is("a byte below 0", x.feed(-1), FootLights.BAD);
        due.is("a byte of 256", x.feed(256), FootLights.BAD);
        due.is("byte 0", x.feed(0), 1);
        due.is("byte 255", x.feed(255), 2);
        for (int n = 3; n <= 90; n++) {
            due.is("byte by byte", x.feed('a'), n);
        }
        due.is("one more", x.feed('a'), FootLights.FULL);
        due.is("BAD ahead of FULL", x.feed(256), FootLights.BAD);
        due.is("90 bytes", x.count(9), 90);
        due.is("none of them is a town", x.town(), -1000100);
        due.is("the tape is empty then", x.count(9), 0);
        due.is("fed anew", x.feed('t'), 1);
    }

    private static void town(String text, int places, int players, int sitters, int lit) {
        FootLights x = new FootLights();
        Due.feed(x, text);
        due.is(text, x.town(), places);
        due.is(text + " places", x.count(1), places);
        due.is(text + " players", x.count(2), players);
        due.is(text + " sitters", x.count(6), sitters);
        due.is(text + " lit", x.count(7), lit);
        due.is(text + " fault", x.fault(), 0);
        due.is(text + " tape", x.count(9), 0);
    }

    private static void townsAreRead() {
        town(FOUR, 4, 0, 0, 15);
        town("t03;f00;f20;f01;f09;", 4, 0, 0, 14);
        town("t1;f0;f0;f0;f0;f0;f0;f0;f7;z7;z7;z7;z7;z0;a0,0;l1,1;c2,0;r3,1;w4,0;a7,1;", 8, 6, 5, 128);
        town(FOUR + "a3,1;", 4, 1, 0, 15);
        town(FOUR + "z3;", 4, 0, 1, 15);
        FootLights x = Due.townOf("t3;f5;f20;f0;f7;z1;z1;z3;w2,1;c0,0;");
        int[] oil = {5, 20, 0, 7};
        int[] sitters = {0, 2, 0, 1};
        for (int i = 0; i < 4; i++) {
            due.is("oil " + i, x.place(i, 0), oil[i]);
            due.is("sitters " + i, x.place(i, 2), sitters[i]);
        }
        due.is("a widow", x.kind(0), 5);
        due.is("her place", x.player(0, 0), 2);
        due.is("her way", x.player(0, 1), 1);
        due.is("a child", x.kind(1), 3);
        due.is("its place", x.player(1, 0), 0);
        due.is("its way", x.player(1, 1), 0);
        due.is("BURN", x.oil(1, 1), 17);
    }

    private static void aTownStandsInPlaceOfTheOneBefore() {
        FootLights x = Due.townOf("t1;f9;f9;f9;f9;f9;z0;z1;r0,0;r1,0;a1,0;");
        x.evenings(2);
        due.is("it has been played", x.count(5), 2);
        Due.feed(x, FOUR + "a0,0;");
        due.is("another town", x.town(), 4);
        int[] counts = {0, 4, 1, 0, 0, 0, 0, 15, 0, 0};
        for (int what = 0; what < counts.length; what++) {
            due.is("of the new town: count " + what, x.count(what), counts[what]);
        }
        due.is("no act can be undone", x.undo(), FootLights.STATE);
    }

    private static void fault(String text, int place, int number) {
        FootLights x = new FootLights();
        Due.feed(x, text);
        due.is(text, x.town(), -1000100 - place);
        due.is(text + " fault", x.fault(), number);
        due.is(text + " places", x.count(1), 0);
        due.is(text + " tape", x.count(9), 0);
    }

    private static void faultsAreTold() {
        fault("", 0, 1);
        fault("f1;", 0, 1);
        fault("T1;", 0, 1);
        fault(" t1;", 0, 1);
        fault("t", 1, 1);
        fault("t;", 1, 1);
        fault("t1", 2, 1);
        fault("t1,", 2, 1);
        fault("t0;", 1, 2);
        fault("t4;", 1, 2);
        fault("t001;", 1, 1);
        fault("t111", 1, 1);
        fault("t1111;", 1, 1);
        fault("t1;", 3, 1);
        fault("t1;t1;", 3, 1);
        fault("t1;z0;", 3, 1);
        fault("t1;f21;", 4, 2);
        fault("t1;f99", 4, 2);
        fault("t1;f020;", 4, 1);
        fault("t1;f-1;", 4, 1);
        fault("t1;f1;f1;f1;", 12, 1);
        fault("t1;f1;f1;f1;a0,0;", 12, 1);
        fault("t1;f1;f1;f1;z0;", 12, 1);
        fault(FOUR + "x", 15, 1);
        fault(FOUR + ";", 15, 1);
        fault(FOUR + "1", 15, 1);
        fault(FOUR + " ", 15, 1);
        fault(FOUR + (char) 233, 15, 1);
        fault(FOUR + "f", 16, 1);
        fault(FOUR + "z", 16, 1);
        fault(FOUR + "z4;", 16, 2);
        fault(FOUR + "z0,", 17, 1);
        fault(FOUR + "z0;f1;", 18, 1);
        fault(FOUR + "a0,0;z0;", 20, 1);
        fault(FOUR + "a0,0;f0;", 20, 1);
        fault(FOUR + "a4,0;", 16, 2);
        fault(FOUR + "a0;", 17, 1);
        fault(FOUR + "a0,2;", 18, 2);
        fault(FOUR + "a0,0", 19, 1);
        fault(FOUR + "a0,0,", 19, 1);
        fault(FOUR + "a0,000;", 18, 1);
        fault(FOUR + "p0,0;", 15, 1);
        fault("t1;f1;f1;f1;f1;f1;f1;f1;f1;f1;", 27, 3);
        fault("t1;f1;f1;f1;f1;f1;f1;f1;f1;z0;f1;", 30, 1);
        fault("t1;f1;f1;f1;f1;f1;f1;f1;f1;f", 27, 3);
        fault(FOUR + "z0;z0;z0;z0;z0;z0;", 30, 3);
        fault(FOUR + "z0;z0;z0;z0;z0;a0,0;z0;", 35, 1);
        fault(FOUR + "a0,0;a0,0;a0,0;a0,0;a0,0;a0,0;w0,0;", 45, 3);
        fault(FOUR + "a0,0;a0,0;a0,0;a0,0;a0,0;a0,0;x", 45, 1);
        fault(FOUR + "a0,0;a0,0;a0,0;a0,0;a0,0;a0,0;z", 45, 1);
    }

    private static void aFaultLeavesAllButTheTape() {
        FootLights x = Due.townOf("t1;f9;f9;f9;f9;z0;r0,0;a1,0;");
        x.evenings(1);
        Due.feed(x, "t9;f1;f1;f1;f1;");
        due.is("a fault", x.town(), -1000101);
        due.is("its number", x.fault(), 2);
        due.is("the town is there", x.count(1), 4);
        due.is("its evening", x.count(3), 1);
        due.is("its act", x.count(8), 1);
        due.is("the tape is empty", x.count(9), 0);
        Due.feed(x, FOUR);
        due.is("a town again", x.town(), 4);
        due.is("the latest fault is told yet", x.fault(), 2);
        x.town();
        due.is("a later fault", x.fault(), 1);
        Due.feed(x, "t111;");
        x.town();
        Due.feed(x, "t1");
        due.is("what stood on the tape before is gone", x.town(), -1000102);
    }

    private static void drawnTextsAreReadAsByTheModel() {
        String[] pieces = {"t1;", "t3;", "f9;", "f0;", "f20;", "f21;", "z0;", "z3;", "z4;", "a0,0;", "l3,1;", "c7,0;",
            "r1,1;", "w2,2;", "t", "f", "z", "a", "1", "22", "333", ",", ";", "x", " ", "f1;f1;f1;f1;", "f5;f5;f5;"};
        Random random = new Random(11);
        for (int run = 0; run < 4000; run++) {
            FootLights x = new FootLights();
            Model model = new Model();
            StringBuilder text = new StringBuilder(random.nextInt(20) > 0 ? FOUR : "");
            for (int i = random.nextInt(16); i > 0; i--) {
                int like = random.nextInt(3) > 0 ? 6 + random.nextInt(6) : random.nextInt(pieces.length);
                text.append(pieces[random.nextInt(12) == 0 ? 2 : like]);
            }
            if (text.length() > 0 && random.nextInt(3) == 0) {
                text.setCharAt(random.nextInt(text.length()), "tfzal,;019".charAt(random.nextInt(10)));
            }
            for (int i = 0; i < text.length(); i++) {
                due.is("feed", x.feed(text.charAt(i)), model.feed(text.charAt(i)));
            }
            due.is(text.toString(), x.town(), model.town());
            due.is(text + " fault", x.fault(), model.fault());
            for (int what = 0; what <= 9; what++) {
                due.is(text + " count " + what, x.count(what), model.count(what));
            }
        }
    }
}
