/** Paragraph 1, THE TEXT: letters, ITEMS, numbers, what stands without, FAULT and LAID. */
final class TextBounds extends Bounds {
    /** Each number of each ITEM in its turn, with one that is told there. */
    private static final String[][] SLOTS = {
        {"d", "7", ";"}, {"m", "3", ",4,9;"}, {"m3,", "4", ",9;"}, {"m3,4,", "9", ";"},
        {"s", "5", ",6,7,1;"}, {"s5,", "6", ",7,1;"}, {"s5,6,", "7", ",1;"}, {"s5,6,7,", "1", ";"}};
    private static final String AT_FIRST = "d1000;m0,990,1010;m1,1000,1030;m2,995,1005;m3,2000,2010;s1500,1,100,0;";

    TextBounds(Check check, Document document) {
        super(check, document);
    }

    @Override
    void run() {
        twoHundredLetters();
        wipedLettersAreGone();
        aMarkBehindEach();
        figures();
        numbersThatAreNone();
        driftItem();
        masterItem();
        leapItemAt();
        leapItemTicks();
        leapItemWindow();
        leapItemKind();
        leapWithout();
        faultIsTheFirst();
        faultAtTheEnds();
        laidIsWithoutFault();
        laidAtFirst();
    }

    private void twoHundredLetters() {
        says("THE TEXT is letters (200 at most).");
        DoubtTime x = new DoubtTime();
        for (int i = 1; i <= 200; i++) {
            due("write(';')", x.write(';'), i);
        }
        due("a letter more", x.write(';'), FULL);
        due("another letter more", x.write('d'), FULL);
        due("letters", x.count(7), 200);
        due("wipe()", x.wipe(), 200);
        due("room again", x.write(';'), 1);
        // 200 letters, which say something to the last.
        String full = "d1;".repeat(64) + "m0,1,22;";
        due("how long it is", full.length(), 200);
        DoubtTime y = Check.laid(full);
        due("the letters are all there", y.count(7), 200);
        dueSpan("the last letters count", y, 0, 1, 22);
        dueFault("d1;".repeat(64) + "m0,1,22,", 192);
    }

    private void wipedLettersAreGone() {
        says("THE TEXT is letters (200 at most).");
        DoubtTime x = new DoubtTime();
        Check.put(x, "d55;m1,2,3;");
        x.wipe();
        Check.put(x, "d5");
        due("what stood behind it does not count", x.fault(), 0);
        due("write(';')", x.write(';'), 3);
        due("fault()", x.fault(), NONE);
        due("lay()", x.lay(), 0);
        due("DRIFT", x.count(1), 5);
    }

    private void aMarkBehindEach() {
        says("A TEXT is ITEMS one behind the other, a ; behind each;");
        dueFault("d7;m3,4,9;s5,6,7,1;", NONE);
        dueFault("d7;m3,4,9;s5,6,7,1", 10);
        dueFault("d7m3,4,9;", 0);
        dueFault("d7;;m3,4,9;", 3);
        dueFault("d7; m3,4,9;", 3);
        dueFault("d7;m3,4,9 ;", 3);
        dueFault("d7,m3,4,9;", 0);
        dueFault("d7:", 0);
        dueFault(";", 0);
        dueFault(";d7;", 0);
        for (String[] slot : SLOTS) {
            String item = slot[0] + slot[1] + slot[2];
            dueFault(item, NONE);
            dueFault(item + item, NONE);
            dueFault(item + ";", item.length());
            for (int size = 1; size < item.length(); size++) {
                dueFault(item.substring(0, size), 0);
                dueFault("d1;" + item.substring(0, size), 3);
            }
        }
        dueFault("D7;", 0);
        dueFault("M3,4,9;", 0);
        dueFault("S5,6,7,1;", 0);
        dueFault("e7;", 0);
        dueFault("7;", 0);
        dueFault("dd7;", 0);
        dueFault("d7,7;", 0);
        dueFault("m3,4;", 0);
        dueFault("m3,4,9,9;", 0);
        dueFault("s5,6,7;", 0);
        dueFault("s5,6,7,1,1;", 0);
    }

    private static String with(String[] slot, String number) {
        return slot[0] + number + slot[2];
    }

    private void figures() {
        says("numbers have one to nineteen figures (one that is above 9223372036854775807 is none):");
        for (String[] slot : SLOTS) {
            dueFault(with(slot, ""), 0);
            dueFault(with(slot, slot[1]), NONE);
            for (int zeros = 1; zeros <= 18; zeros++) {
                dueFault(with(slot, "0".repeat(zeros) + slot[1]), NONE);
            }
            dueFault(with(slot, "0".repeat(19) + slot[1]), 0);
            dueFault(with(slot, "0".repeat(20) + slot[1]), 0);
            dueFault(with(slot, slot[1] + " "), 0);
            dueFault(with(slot, " " + slot[1]), 0);
            dueFault(with(slot, "-" + slot[1]), 0);
            dueFault(with(slot, "+" + slot[1]), 0);
            dueFault(with(slot, slot[1] + "."), 0);
            // The signs beside the figures.
            dueFault(with(slot, slot[1] + "/"), 0);
            dueFault(with(slot, ":" + slot[1]), 0);
        }
        dueFault("d" + "0".repeat(19) + ";", NONE);
        dueFault("d" + "0".repeat(20) + ";", 0);
        DoubtTime x = Check.laid("d0000000000000000089;m5,0000001000000000000,1000000000000;s0000000000000000012,1,2,1;");
        due("noughts ahead of a number say nothing", x.count(1), 89);
        dueSpan("noughts", x, 5, LAST_TOLD, LAST_TOLD);
        due("noughts", x.leap(0), 12);
    }

    /** Among them those that would be told ones if their higher bits, 32 or 64 of them, were lost. */
    private void numbersThatAreNone() {
        says("numbers have one to nineteen figures (one that is above 9223372036854775807 is none):");
        String[] none = {"9223372036854775807", "9223372036854775808", "9223372036854775809", "9999999999999999999",
            "9999999999999999990", "18446744073709551616", "18446744073709551617", "18446744073709551623",
            "99999999999999999999", "1000000000001"};
        for (String[] slot : SLOTS) {
            for (String number : none) {
                dueFault(with(slot, number), 0);
                dueFault("d1;" + with(slot, number), 3);
            }
        }
        dueFault("d4294967296;", 0);
        dueFault("d4294967303;", 0);
        dueFault("m4294967299,4,9;", 0);
        dueFault("s5,4294967302,4294967303,1;", 0);
        dueFault("s5,6,4294967303,1;", 0);
        dueFault("s5,6,7,4294967297;", 0);
        dueFault("s5,6,7,4294967296;", 0);
        DoubtTime x = Check.laid("d5;m0,4294967296,4294967297;s4294967301,6,7,1;");
        dueSpan("more than 32 bits", x, 0, 4294967296L, 4294967297L);
        due("more than 32 bits", x.leap(0), 4294967301L);
    }

    private void driftItem() {
        says("dD DRIFT is D (1000 without; of several the last one counts)");
        due("d0;", Check.laid("d0;").count(1), 0);
        due("d999999;", Check.laid("d999999;").count(1), 999999);
        dueFault("d1000000;", 0);
        due("without", Check.laid("m0,1,2;").count(1), 1000);
        due("of an empty TEXT", Check.laid("").count(1), 1000);
        due("the last of two", Check.laid("d7;d3;").count(1), 3);
        due("the last of three", Check.laid("d3;m0,1,2;d9;d5;s0,1,2,0;").count(1), 5);
        DoubtTime x = Check.laid("d7;");
        x.wipe();
        x.lay();
        due("without, behind one that had it", x.count(1), 1000);
    }

    private void masterItem() {
        says("mM,L,H MASTER M tells L to H at LOCAL 0");
        DoubtTime x = new DoubtTime();
        x.go(100);
        Check.put(x, "d500000;m0,0,0;m5,7,1000000000000;");
        due("lay()", x.lay(), 2);
        dueSpan("the least", x, 0, 0, 0);
        dueSpan("the most", x, 5, 7, LAST_TOLD);
        for (int m = 1; m <= 4; m++) {
            due("it told nothing: span(" + m + ", 0)", x.span(m, 0), LONG_NO);
        }
        x.go(10);
        dueSpan("told at LOCAL 0", x, 0, 5, 15);
        dueSpan("the last of several", Check.laid("m2,1,9;m1,0,0;m2,3,4;"), 2, 3, 4);
        due("one HEARD", Check.laid("m2,1,9;m2,3,4;").count(2), 1);
        due("six HEARD", Check.laid("m5,1,1;m4,1,1;m3,1,1;m2,1,1;m1,1,1;m0,1,1;").count(2), 6);
    }

    private static final String LEAP = "sT,A,W,K THE LEAP is at T (0 to 1000000000000), of A TICKS (1 to 1000), "
        + "smeared over W (A and 1 to 1000000000), of KIND K: 0 A TICKS more, 1 A TICKS less "
        + "(1000,1,100,0 without; of several the last one counts)";

    private void leapItemAt() {
        says(LEAP);
        dueLeap("T 0", Check.laid("s0,6,7,1;"), 0, 6, 7, 1);
        dueLeap("T 10^12", Check.laid("s1000000000000,6,7,1;"), LAST_TOLD, 6, 7, 1);
        dueFault("s1000000000001,6,7,1;", 0);
        dueFault("s-1,6,7,1;", 0);
    }

    private void leapItemTicks() {
        says(LEAP);
        dueFault("s5,0,7,1;", 0);
        dueFault("s5,0,1,1;", 0);
        dueFault("s5,0,0,1;", 0);
        dueLeap("A 1", Check.laid("s5,1,7,1;"), 5, 1, 7, 1);
        dueLeap("A 1000", Check.laid("s5,1000,1001,1;"), 5, 1000, 1001, 1);
        dueFault("s5,1001,1002,1;", 0);
        dueFault("s5,1001,1000000000,1;", 0);
    }

    private void leapItemWindow() {
        says(LEAP);
        dueFault("s5,6,6,1;", 0);
        dueFault("s5,6,5,1;", 0);
        dueFault("s5,6,0,1;", 0);
        dueLeap("W is A and 1", Check.laid("s5,6,7,1;"), 5, 6, 7, 1);
        dueFault("s5,1,1,0;", 0);
        dueLeap("the least W", Check.laid("s5,1,2,0;"), 5, 1, 2, 0);
        dueFault("s5,1000,1000,0;", 0);
        dueLeap("the least W of the most A", Check.laid("s5,1000,1001,0;"), 5, 1000, 1001, 0);
        dueLeap("the most W", Check.laid("s5,1000,1000000000,0;"), 5, 1000, 1000000000, 0);
        dueFault("s5,1000,1000000001,0;", 0);
        dueFault("s5,1,1000000001,0;", 0);
    }

    private void leapItemKind() {
        says(LEAP);
        DoubtTime more = Check.laid("s5,6,7,0;");
        dueLeap("K 0", more, 5, 6, 7, 0);
        due("A TICKS more", more.smeared(12), 18);
        DoubtTime less = Check.laid("s5,6,7,1;");
        dueLeap("K 1", less, 5, 6, 7, 1);
        due("A TICKS less", less.smeared(12), 6);
        dueFault("s5,6,7,2;", 0);
        dueFault("s5,6,7,10;", 0);
        dueFault("s5,6,7,-1;", 0);
    }

    private void leapWithout() {
        says(LEAP);
        dueLeap("of an empty TEXT", Check.laid(""), 1000, 1, 100, 0);
        dueLeap("without", Check.laid("d5;m0,1,2;"), 1000, 1, 100, 0);
        dueLeap("the last of two", Check.laid("s5,6,7,1;s8,2,3,0;"), 8, 2, 3, 0);
        dueLeap("the last of three", Check.laid("s8,2,3,0;d5;s9,9,10,1;m0,1,2;s5,6,7,1;d6;"), 5, 6, 7, 1);
        DoubtTime x = Check.laid("s5,6,7,1;");
        x.wipe();
        x.lay();
        dueLeap("without, behind one that had it", x, 1000, 1, 100, 0);
    }

    private void faultIsTheFirst() {
        says("FAULT: the place of the first letter of the first ITEM that is not so.");
        dueFault("x;", 0);
        dueFault("x;d1000000;y", 0);
        dueFault("d1;x;y;", 3);
        dueFault("d1;m0,1,2;d1000000;x;", 10);
        dueFault("d1;m0,2,1;d1000000;x;", 3);
        dueFault("d1;s5,6,7,2;m6,1,2;", 3);
        dueFault("d1;m0,1,2;s5,6,7,1", 10);
        // The place of the ITEM's first letter, wherever in it the wrong one is.
        dueFault("d1;s5,6,7,1x;", 3);
        dueFault("d1;sx5,6,7,1;", 3);
        dueFault("d1;xs5,6,7,1;", 3);
        // An ITEM that is not so hides none ahead of it, and those behind it do not mend it.
        dueFault("d1;m0,1;d1;m0,1,2;", 3);
    }

    private void faultAtTheEnds() {
        says("FAULT: the place of the first letter of the first ITEM that is not so.");
        dueFault("", NONE);
        for (int letter = 32; letter <= 126; letter++) {
            dueFault(String.valueOf((char) letter), 0);
        }
        String most = "d1;".repeat(65) + "d11;";
        dueFault(most, NONE);
        dueFault(most + "d", 199);
        dueFault(most + ";", 199);
        dueFault("d1;".repeat(66), NONE);
        dueFault("d1;".repeat(66) + "d1", 198);
        dueFault("d1;".repeat(66) + ";;", 198);
        dueFault("x" + most, 0);
        dueFault("d".repeat(200), 0);
        dueFault("d1;" + "0".repeat(197), 3);
        dueFault("d1;d" + "0".repeat(196), 3);
        dueFault(" ".repeat(200), 0);
    }

    private void laidIsWithoutFault() {
        says("LAID is a TEXT without FAULT (an empty one, too;");
        DoubtTime x = new DoubtTime();
        due("lay() of an empty one", x.lay(), 0);
        dueCounts("an empty one", x, 0, 1000, 0, 0, 0, 0, 0, 0);
        dueLeap("an empty one", x, 1000, 1, 100, 0);
        DoubtTime y = new DoubtTime();
        Check.put(y, "d7;m0,1,2");
        due("lay() with a FAULT", y.lay(), NO);
        dueCounts("what was LAID stays", y, 0, 1000, 4, 0, 0, 0, 0, 9);
        y.write(';');
        due("lay() of it mended", y.lay(), 1);
        dueCounts("LAID", y, 0, 7, 1, 0, 0, 0, 0, 10);
        y.write(';');
        due("lay() with a FAULT behind it", y.lay(), NO);
        dueCounts("what was LAID stays", y, 0, 7, 1, 0, 0, 0, 0, 11);
    }

    private void laidAtFirst() {
        says("at first " + AT_FIRST + ").");
        DoubtTime first = new DoubtTime();
        DoubtTime laid = Check.laid(AT_FIRST);
        laid.wipe();
        for (int m = 0; m <= 5; m++) {
            dueSpan("at first and LAID", first, m, laid.span(m, 0), laid.span(m, 1));
        }
        dueLeap("at first", first, 1500, 1, 100, 0);
        dueLeap("LAID", laid, 1500, 1, 100, 0);
        dueCounts("at first", first, 0, 1000, 4, 0, 0, 0, 0, 0);
        dueCounts("LAID", laid, 0, 1000, 4, 0, 0, 0, 0, 0);
        dueSpan("at first", first, 0, 990, 1010);
        dueSpan("at first", first, 1, 1000, 1030);
        dueSpan("at first", first, 2, 995, 1005);
        dueSpan("at first", first, 3, 2000, 2010);
        due("at first", first.span(4, 0), LONG_NO);
        due("at first", first.span(5, 1), LONG_NO);
    }
}
