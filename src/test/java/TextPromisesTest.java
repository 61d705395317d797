/** Promises 18 to 22: the tape, the sets of rules, where a text is at fault. */
public final class TextPromisesTest {
    private static final Check CHECK = new Check("promises 18 to 22");

    public static void main(String[] args) {
        feedAndEnd();
        use();
        texts();
        faults();
        clauseLimit();
        bracketLimit();
        nots();
        meanings();
        rulesStay();
        CHECK.end();
    }

    private static void due(String call, long want, long got) {
        CHECK.due(call, want, got);
    }

    private static void feedAndEnd() {
        TrainDescriber x = new TrainDescriber();
        for (int i = 1; i <= 20; i++) {
            due("18 feed", 20 * i, x.feed(-1, 0, 1, 2, 3));
        }
        due("18 full", -1, x.feed(0, 0, 0, 0, 0));
        due("18 stays", 400, x.count(7));
        due("19 below 0", -1, x.end(-1));
        due("19 more", -1, x.end(401));
        due("19 all", 400, x.end(400));
        due("19 fewer", 381, x.end(381));
        due("18 just over", -1, x.feed(0, 0, 0, 0, 0));
        due("19 fewer", 380, x.end(380));
        due("18 just fits", 400, x.feed(0, 0, 0, 0, 0));
        due("19 none", 0, x.end(0));
        due("19 more than it has", -1, x.end(1));
        due("19 far", -1, x.end(Integer.MAX_VALUE));
        due("19 far", -1, x.end(Integer.MIN_VALUE));
        // The highest byte comes first: a row with a drop of track 2, then a pick of track 15.
        x.feed(0x0182030F, 0, 0, 0, 0);
        x.end(4);
        due("18 the bytes' order", 2, x.run());
    }

    private static void use() {
        TrainDescriber x = new TrainDescriber();
        due("20 was", 0, x.use(1));
        due("20 was", 1, x.use(1));
        due("20 wrong", -1, x.use(2));
        due("20 wrong", -1, x.use(-1));
        due("20 status", -1, x.status());
        due("20 stays", 1, x.use(0));
        due("20 status", 0, x.status());
        Check.rules(x, "clear 0 at drop 0");
        x.use(1);
        due("55 clauses of the set in use", 0, x.count(0));
        due("21 other set", 2, Check.rules(x, "clear 0 at drop 0;clear 1 at drop 0"));
        due("55 clauses", 2, x.count(0));
        x.use(0);
        due("55 clauses", 1, x.count(0));
    }

    private static void good(int clauses, String text) {
        TrainDescriber x = new TrainDescriber();
        due("21 '" + text + "'", clauses, Check.rules(x, text));
        due("21 status", 0, x.status());
        due("22 without a fault", -1, x.fault());
        due("21 the tape is empty then", 0, x.count(7));
        due("55 clauses", clauses, x.count(0));
    }

    private static void bad(int place, String text) {
        TrainDescriber x = new TrainDescriber();
        due("21 '" + text + "'", -6, Check.rules(x, text));
        due("21 status", -6, x.status());
        due("22 '" + text + "'", place, x.fault());
        due("21 the tape is empty then", 0, x.count(7));
        due("55 clauses", 0, x.count(0));
    }

    private static void texts() {
        good(1, "clear 11 at drop 15");
        good(1, "step 0 to 11 at pick 0 if signal 7");
        good(1, "   clear 1 at drop 1   ");
        good(1, "step 0 to 11 at pick 0 if track 15 or signal 7 or full 11");
        good(1, "clear1at drop1");
        good(1, "step0to1at pick2if(full3)or not track4and signal5");
        good(2, "clear 1 at drop 1;clear 2 at pick 2");
        good(1, "clear 1 at drop 1 if ((full 1) and (full 2 or full 3))");
        good(1, "clear 0011 at drop 00000000000000000000000000000000015");
    }

    private static void faults() {
        bad(0, "");
        bad(3, "   ");
        bad(0, "Step 0 to 1 at drop 1");
        bad(0, "steps 0 to 1 at drop 1");
        bad(1, " 0");
        bad(4, "step");
        bad(8, "step    ");
        bad(5, "step 12 to 1 at drop 1");
        bad(5, "step to 1");
        bad(7, "step 0 1 at drop 1");
        bad(10, "step 0 to 12 at drop 1");
        bad(10, "step 0 to x at drop 1");
        bad(8, "clear 0 to 1 at drop 1");
        bad(0, "xlear 0 at drop 1");
        bad(5, "clear");
        bad(7, "clear 0");
        bad(9, "step 0 to");
        bad(10, "clear 0 at");
        bad(15, "clear 0 at drop");
        bad(25, "clear 0 at drop 1 if full");
        bad(31, "clear 0 at drop 1 if full 1 and");
        bad(21, "clear 0 at drop 1 if fullz 1");
        bad(21, "clear 0 at drop 1 if afull 1");
        bad(25, "clear 0 at drop 1 if full{1");
        bad(25, "clear 0 at drop 1 if full`1");
        bad(26, "clear 0 at drop 1 if full /1");
        bad(26, "clear 0 at drop 1 if full :1");
        bad(11, "clear 0 at up 1");
        bad(11, "clear 0 at dropp 1");
        bad(16, "clear 0 at drop 16");
        bad(16, "clear 0 at drop 99999999999999999999");
        bad(16, "clear 0 at drop 4294967296");
        bad(16, "clear 0 at drop -1");
        bad(18, "clear 0 at drop 1 1");
        bad(18, "clear 0 at drop 1 and full 1");
        bad(18, "clear 0 at drop 1 clear 1 at drop 1");
        bad(17, "clear 0 at drop 1\t");
        bad(17, "clear 0 at drop 1" + (char) 200 + " ");
        bad(18, "clear 0 at drop 1;");
        bad(20, "clear 0 at drop 1;  ");
        bad(18, "clear 0 at drop 1;;clear 1 at drop 1");
        bad(0, ";clear 0 at drop 1");
        bad(20, "clear 0 at drop 1 if");
        bad(21, "clear 0 at drop 1 if and full 1");
        bad(27, "clear 0 at drop 1 if track 16");
        bad(28, "clear 0 at drop 1 if signal 8");
        bad(26, "clear 0 at drop 1 if full 12");
        bad(26, "clear 0 at drop 1 if full full 1");
        bad(28, "clear 0 at drop 1 if full 1 full 1");
        bad(28, "clear 0 at drop 1 if full 1 not full 1");
        bad(30, "clear 0 at drop 1 if full 1 or");
        bad(31, "clear 0 at drop 1 if full 1 or or full 1");
        bad(24, "clear 0 at drop 1 if not");
        bad(29, "clear 0 at drop 1 if ( full 1");
        bad(29, "clear 0 at drop 1 if ( full 1; clear 1 at drop 1");
        bad(27, "clear 0 at drop 1 if full 1)");
        bad(22, "clear 0 at drop 1 if ()");
        bad(28, "clear 0 at drop 1 if full 1 if full 2");
        bad(27, "clear 0 at drop 1 if full 1orfull 2");
    }

    private static String clauses(int many) {
        StringBuilder text = new StringBuilder();
        for (int i = 0; i < many; i++) {
            text.append(i == 0 ? "" : ";").append("clear 0 at drop 0");
        }
        return text.toString();
    }

    private static void clauseLimit() {
        good(16, clauses(16));
        bad(16 * 18, clauses(17));
        bad(16 * 18, clauses(16) + ";x");
        bad(16 * 18 + 2, clauses(16) + ";  ");
        bad(16 * 18, clauses(16) + ";");
        bad(16 * 18 - 1, clauses(16) + "x");
    }

    private static void bracketLimit() {
        String head = "clear 0 at drop 1 if ";
        good(1, head + "(((((((( full 1 ))))))))");
        bad(head.length() + 8, head + "((((((((( full 1 )))))))))");
        // Brackets side by side are not within one another.
        good(1, head + "(full 1)and(full 1)and(full 1)and(full 1)and(full 1)and(full 1)and(full 1)and(full 1)and(full 1)");
        bad(head.length() + 35, head + "not(not(not(not(not(not(not(not(not(not(full 1");
        good(1, head + "not(not(not(not(not(not(not(not(full 1))))))))");
        // 48 plains are the most that 400 bytes have room for, so that the 51st is never reached.
        StringBuilder many = new StringBuilder("clear0at drop0if full1");
        for (int i = 0; i < 47; i++) {
            many.append("or full1");
        }
        good(1, many.toString());
    }

    private static void nots() {
        StringBuilder text = new StringBuilder("clear 0 at drop 1 if ");
        for (int i = 0; i < 93; i++) {
            text.append("not ");
        }
        TrainDescriber x = new TrainDescriber();
        x.interpose(0, 0, 1);
        due("21 nots", 1, Check.rules(x, text + "full 1"));
        due("21 93 nots are one", 1, x.event(0, 1, 1));
        x.interpose(0, 0, 1);
        x.event(0, 1, 0);
        due("21 nots", 1, Check.rules(x, text.substring(0, text.length() - 4) + "full 1"));
        due("21 92 nots are none", 0, x.event(0, 1, 1));
        bad(text.length(), text.toString());
    }

    /** Whether a test is so with track 1 occupied, signal 1 off, berth 1 full, all others not. */
    private static void so(boolean want, String test) {
        TrainDescriber x = new TrainDescriber();
        x.event(0, 1, 1);
        x.signal(1, 1);
        x.interpose(0, 1, 5);
        x.interpose(0, 9, 5);
        due("21 '" + test + "'", 1, Check.rules(x, "clear 9 at drop 9 if " + test));
        due("4 '" + test + "'", want ? 1 : 0, x.event(0, 9, 1));
    }

    private static void meanings() {
        so(true, "track 1");
        so(false, "track 2");
        so(true, "track 9");
        so(true, "signal 1");
        so(false, "signal 0");
        so(true, "full 1");
        so(false, "full 2");
        so(false, "not full 1");
        so(true, "full 1 or full 2 and full 3");
        so(false, "(full 1 or full 2) and full 3");
        so(true, "full 2 and full 3 or full 1");
        so(false, "full 2 and (full 3 or full 1)");
        so(false, "not full 1 or full 2");
        so(true, "not (full 1 and full 2)");
        so(true, "not full 2 and not full 3");
        so(false, "not (full 2 or full 1)");
        so(true, "((((((((track 1))))))))and signal 1");
        so(true, "full 2 or full 3 or full 4 or full 1");
        so(false, "full 1 and track 1 and signal 1 and full 2");
        so(true, "full 2 or (full 1 and (full 2 or (full 1 and (full 2 or (full 1 and (full 2 or (full 1 and full 1)))))))");
        so(false, "full 2 or (full 1 and (full 2 or (full 1 and (full 2 or (full 1 and (full 2 or (full 1 and full 2)))))))");
    }

    private static void rulesStay() {
        TrainDescriber x = new TrainDescriber();
        Check.rules(x, "step 0 to 1 at drop 1");
        due("21 a fault", -6, Check.rules(x, "clear 0 at drop 1; clear 5"));
        due("22 place", 26, x.fault());
        due("21 those before stay", 1, x.count(0));
        x.interpose(0, 0, 9);
        due("21 those before stay", 1, x.event(0, 1, 1));
        due("21 those before stay", 9, x.berth(1, 0));
        due("22 still", 26, x.fault());
        x.image(0);
        Check.rules(x, "clear 1 at drop 2");
        due("22 the latest", -1, x.fault());
        x.back(0);
        due("22 no image keeps it", -1, x.fault());
        x.event(0, 2, 1);
        due("54 the rules are back", 9, x.berth(1, 0));
    }
}
