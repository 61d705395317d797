/** Of Terms II what a text of rules is; promises 18 to 22. */
final class EdgesOfText extends Edges {
    private static final String HEAD = "clear 0 at drop 1 if ";

    EdgesOfText(Ledger doc) {
        super(doc);
    }

    @Override
    void all() {
        doc.section("Terms");
        sets();
        text();
        tokens();
        clauses();
        clause();
        either();
        both();
        plain();
        numbers();
        brackets();
        faults();
        feed();
        end();
        use();
        rules();
        fault();
    }

    private void good(int clauses, String text) {
        TrainDescriber x = new TrainDescriber();
        due(clauses, Check.rules(x, text));
        due(0, x.status());
        due(-1, x.fault());
    }

    private void bad(int place, String text) {
        TrainDescriber x = new TrainDescriber();
        due(-6, Check.rules(x, text));
        due(-6, x.status());
        due(place, x.fault());
    }

    private void sets() {
        TrainDescriber x = doc.says("There are two sets of RULES, 0 and 1; one is in USE (0 at first): EVENTS go by that.");
        Check.rules(x, "step 0 to 1 at drop 1");
        due(0, x.use(1));
        due(0, x.count(0));
        x.interpose(0, 0, 5);
        due(0, x.event(0, 1, 1));
        Check.rules(x, "step 0 to 2 at drop 1");
        x.event(0, 1, 0);
        due(1, x.event(0, 1, 1));
        due(5, x.berth(2, 0));
        due(1, x.use(0));
        x.interpose(0, 0, 6);
        x.event(0, 1, 0);
        due(1, x.event(0, 1, 1));
        due(6, x.berth(1, 0));
        due(-1, x.use(2));
        due(-1, x.use(-1));
    }

    private void text() {
        TrainDescriber x = doc.says("RULES are a TEXT (none at first: no CLAUSE) on a TAPE of at most 400 bytes.");
        due(0, x.count(0));
        x.interpose(0, 0, 5);
        for (int t = 0; t < 16; t++) {
            due(0, x.event(0, t, 1));
            due(0, x.event(0, t, 0));
        }
        // A text of 400 bytes is read to its last one.
        String clause = "clear 0 at drop 1";
        due(1, Check.rules(x, " ".repeat(400 - clause.length()) + clause));
        due(-6, Check.rules(x, " ".repeat(399) + "x"));
        due(399, x.fault());
        due(-6, Check.rules(x, clause + " ".repeat(382) + ";"));
        due(400, x.fault());
        // No text has more tokens than one of 400 signs that each are one.
        due(-6, Check.rules(x, ";".repeat(400)));
        due(0, x.fault());
        due(-6, Check.rules(x, clause + ")".repeat(383)));
        due(17, x.fault());
        due(1, x.count(0));
    }

    private void tokens() {
        doc.says("TOKENS: longest rows of letters a .. z, of digits, single other bytes, any blanks (32) between.");
        good(1, "clear0at drop1");
        good(1, "step0to1at pick2if(full3)or not track4and signal5");
        good(2, "  clear   0   at   drop   1  ;  clear   1   at   drop   1  ");
        good(1, HEAD + "((full 1))");
        // Letters run on: "atdrop" is one token; so do digits: "1 5" is two, "15" one, "155" too large.
        bad(7, "clear 0atdrop 1");
        bad(18, "clear 0 at drop 1 5");
        good(1, "clear 0 at drop 15");
        bad(16, "clear 0 at drop 155");
        bad(0, "cl ear 0 at drop 1");
        bad(0, "Clear 0 at drop 1");
        bad(6, "clear \t0 at drop 1");
        bad(5, "clear\n0 at drop 1");
        bad(5, "clear\0000 at drop 1");
        // The bytes next to a .. z and to 0 .. 9 are others.
        bad(5, "clear`0 at drop 1");
        bad(5, "clear{0 at drop 1");
        bad(7, "clear 0/at drop 1");
        bad(7, "clear 0:at drop 1");
        bad(17, "clear 0 at drop 1" + (char) 255);
        bad(17, "clear 0 at drop 1" + (char) 160);
        // Each letter and digit from the first to the last counts as one of its row.
        bad(0, "cleara 0 at drop 1");
        bad(0, "clearz 0 at drop 1");
        bad(16, "clear 0 at drop 90");
        bad(16, "clear 0 at drop 19");
    }

    private static String many(int clauses) {
        return ";clear 0 at drop 0".repeat(clauses).substring(1);
    }

    private void clauses() {
        doc.says("CLAUSE {\";\" CLAUSE}, 16 at most (FAULT at the 17th's first TOKEN).");
        good(1, many(1));
        good(2, many(2));
        good(16, many(16));
        bad(288, many(17));
        bad(288, many(16) + ";step 0 to 1 at drop 1");
        bad(290, many(16) + ";  clear");
        bad(288, many(16) + ";?");
        bad(288, many(16) + ";");
        bad(291, many(16) + ";   ");
        bad(287, many(16) + "clear 0 at drop 0");
        bad(18, "clear 0 at drop 1;");
        bad(18, "clear 0 at drop 1;;");
        bad(0, ";");
        bad(18, "clear 0 at drop 1 clear 0 at drop 1");
    }

    private void clause() {
        doc.says("CLAUSE: (\"step\" BERTH \"to\" BERTH | \"clear\" BERTH) \"at\" (\"drop\" | \"pick\") TRACK"
                + " [\"if\" TEST].");
        good(1, "step 0 to 11 at drop 0");
        good(1, "step 11 to 0 at pick 15");
        good(1, "step 5 to 5 at pick 15 if full 0");
        good(1, "clear 11 at drop 15");
        good(1, "clear 0 at pick 0 if full 0");
        bad(5, "step to 1 at drop 1");
        bad(7, "step 0 at drop 1");
        bad(10, "step 0 to at drop 1");
        bad(12, "step 0 to 1 drop 1");
        bad(15, "step 0 to 1 at 1");
        bad(15, "step 0 to 1 at if 1");
        bad(20, "step 0 to 1 at drop if full 1");
        bad(8, "clear 0 to 1 at drop 1");
        bad(18, "clear 0 at drop 1 full 1");
        bad(20, "clear 0 at drop 1 if");
        bad(21, "clear 0 at drop 1 if ; clear 0 at drop 1");
        bad(18, "clear 0 at drop 1 to 2");
        bad(0, "drop 1");
    }

    /** Whether a test is so with berth 1 full, all others empty. */
    private void so(boolean want, String test) {
        TrainDescriber x = new TrainDescriber();
        x.interpose(0, 1, 5);
        x.interpose(0, 9, 5);
        due(1, Check.rules(x, "clear 9 at drop 9 if " + test));
        due(want ? 1 : 0, x.event(0, 9, 1));
    }

    private void either() {
        doc.says("TEST: BOTH {\"or\" BOTH}.");
        so(true, "full 1");
        so(true, "full 1 or full 2");
        so(true, "full 2 or full 1");
        so(false, "full 2 or full 3");
        so(true, "full 2 or full 3 or full 1");
        so(true, "full 1 or full 1 and full 2");
        so(true, "full 2 and full 1 or full 1");
        bad(HEAD.length() + 9, HEAD + "full 1 or");
        bad(HEAD.length() + 10, HEAD + "full 1 or or full 1");
        bad(HEAD.length(), HEAD + "or full 1");
    }

    private void both() {
        doc.says("BOTH: PLAIN {\"and\" PLAIN}.");
        so(true, "full 1 and full 1");
        so(false, "full 1 and full 2");
        so(false, "full 2 and full 1");
        so(false, "full 1 and full 1 and full 2");
        so(true, "full 1 and full 1 and full 1");
        bad(HEAD.length() + 10, HEAD + "full 1 and");
        bad(HEAD.length() + 11, HEAD + "full 1 and and full 1");
        bad(HEAD.length() + 11, HEAD + "full 1 and or full 1");
        bad(HEAD.length() + 7, HEAD + "full 1 full 1");
    }

    private void plain() {
        doc.says("PLAIN: \"not\" PLAIN | \"(\" TEST \")\" | \"track\" TRACK | \"signal\" SIGNAL | \"full\" BERTH.");
        so(false, "not full 1");
        so(true, "not full 2");
        so(true, "not not full 1");
        so(false, "not not not full 1");
        so(true, "(full 1)");
        so(false, "not(full 1 or full 2)");
        so(true, "not full 2 or full 2");
        so(false, "not full 1 and full 2");
        so(true, "not(full 1 and full 2)");
        so(false, "(full 1 or full 2) and full 2");
        so(false, "track 1");
        so(true, "track 9");
        so(false, "signal 7");
        // Each of the three in each place of a row.
        so(true, "full 1 or track 2");
        so(true, "full 1 or signal 2");
        so(true, "track 9 and full 1");
        so(true, "full 1 and track 9 or full 2");
        so(true, "signal 2 or track 9 and full 1");
        so(false, "track 9 and signal 2 or full 2");
        so(true, "track 9 or track 2 and signal 2");
        so(true, "not signal 2 and not track 2 and full 1");
        bad(HEAD.length() + 3, HEAD + "not");
        bad(HEAD.length() + 1, HEAD + "()");
        bad(HEAD.length() + 7, HEAD + "(full 1");
        bad(HEAD.length() + 6, HEAD + "full 1)");
        bad(HEAD.length() + 7, HEAD + "(full 1;clear 0 at drop 1");
        bad(HEAD.length() + 9, HEAD + "(full 1) (full 1)");
        bad(HEAD.length(), HEAD + "1");
        bad(HEAD.length(), HEAD + "berth 1");
        // As many nots as a text has room for.
        so(true, "not ".repeat(92) + "full 1");
        so(false, "not ".repeat(91) + "full 1");
    }

    private void numbers() {
        doc.says("NUMBERS as there are; 50 PLAINS with a NUMBER at most (FAULT at the 51st's word),");
        good(1, "clear 11 at drop 0");
        bad(6, "clear 12 at drop 0");
        bad(5, "step 12 to 0 at drop 0");
        bad(10, "step 0 to 12 at drop 0");
        good(1, "clear 0 at drop 15");
        bad(16, "clear 0 at drop 16");
        good(1, HEAD + "track 15");
        bad(HEAD.length() + 6, HEAD + "track 16");
        good(1, HEAD + "signal 7");
        bad(HEAD.length() + 7, HEAD + "signal 8");
        good(1, HEAD + "full 11");
        bad(HEAD.length() + 5, HEAD + "full 12");
        bad(HEAD.length() + 5, HEAD + "full -1");
        // Numbers that would come round to small ones by 32 or by 64 bits.
        bad(HEAD.length() + 5, HEAD + "full 4294967296");
        bad(HEAD.length() + 5, HEAD + "full 4294967297");
        bad(HEAD.length() + 5, HEAD + "full 18446744073709551616");
        bad(HEAD.length() + 5, HEAD + "full " + "9".repeat(370));
        // 400 bytes have room for 48 plains: all of them are good, and so the 51st never comes.
        good(1, "clear0at drop0if full1" + "or full1".repeat(47));
    }

    private void brackets() {
        doc.says("8 brackets within one another (FAULT at the 9th).");
        so(true, "((((((((full 1))))))))");
        so(false, "((((((((full 2))))))))");
        bad(HEAD.length() + 8, HEAD + "(((((((((full 1)))))))))");
        bad(HEAD.length() + 8, HEAD + "(((((((((");
        bad(HEAD.length() + 8, HEAD + "((((((((");
        bad(HEAD.length() + 43, HEAD + "not (".repeat(8) + "not(full 1");
        // Those that are closed count no more; neither do those of the clause before.
        so(true, "((((((((full 1))))))))and((((((((full 1))))))))");
        good(2, HEAD + "((((((((full 1))))))));" + HEAD + "((((((((full 1))))))))");
        so(true, "((((((((full 1)or full 2)or full 2)or full 2)or full 2)or full 2)or full 2)or full 2)");
        bad(HEAD.length() + 16, HEAD + "(((((((full 1or((full 1");
    }

    private void faults() {
        TrainDescriber x = doc.says("FAULT: the first TOKEN that can't go on there (the end's: the TEXT's length).");
        bad(0, "");
        bad(1, " ");
        bad(400, " ".repeat(400));
        bad(4, "step");
        bad(9, "step     ");
        bad(5, "step x y z");
        bad(7, "step 0 ? ?");
        // The first of two.
        bad(5, "step 99 to 99 at drop 99");
        due(-6, Check.rules(x, "clear 0 at drop 1; clear 0 at drop 99; clear 99"));
        due(35, x.fault());
        eachToken();
        // The end is where the text ends, not where the tape once did.
        x.feed(0x636c6561, 0x72203020, 0x61742064, 0x726f7020, 0x31202020);
        x.end(11);
        due(-6, x.rules());
        due(11, x.fault());
    }

    /** Behind each beginning of a text each token: whether it goes on is told by what may come there. */
    private void eachToken() {
        String plain = "not ( track signal full";
        String[][] places = {{"", "step clear"}, {"step ", "0 11"}, {"step 0 ", "to"}, {"step 0 to ", "0 11"},
            {"step 0 to 1 ", "at"}, {"step 0 to 1 at ", "drop pick"}, {"step 0 to 1 at drop ", "0 11 15"}, {"clear ", "0 11"},
            {"clear 0 ", "at"}, {"clear 0 at ", "drop pick"}, {"clear 0 at pick ", "0 11 15"},
            {"clear 0 at pick 0 ", "; if"}, {"clear 0 at pick 0 if ", plain}, {"clear 0 at pick 0 if not ", plain},
            {"clear 0 at pick 0 if ( ", plain}, {"clear 0 at pick 0 if full ", "0 11"},
            {"clear 0 at pick 0 if track ", "0 11 15"}, {"clear 0 at pick 0 if signal ", "0"},
            {"clear 0 at pick 0 if full 0 ", "; and or"}, {"clear 0 at pick 0 if ( full 0 ", ") and or"},
            {"clear 0 at pick 0 if ( full 0 ) ", "; and or"}, {"clear 0 at pick 0 if full 0 and ", plain},
            {"clear 0 at pick 0 if full 0 or ", plain}, {"clear 0 at pick 0 ; ", "step clear"}};
        String[] tokens = ("step clear to at drop pick if or and not track signal full 0 11 15 16 ; ( ) . x , stepp ste "
                + "xtep stex clea clearr xlear t ato a att xt dro dropp pic pickk i iff o orr an andd no nott trac tracks"
                + " signa signals ful fullz").split(" ");
        for (String[] place : places) {
            TrainDescriber x = new TrainDescriber();
            boolean whole = (" " + place[1] + " ").contains(" ; ");
            due(whole ? 1 : -6, Check.rules(x, place[0]));
            due(whole ? -1 : place[0].length(), x.fault());
            for (String token : tokens) {
                boolean goes = (" " + place[1] + " ").contains(" " + token + " ");
                Check.rules(x, place[0] + token);
                due(goes ? 0 : 1, x.fault() == place[0].length() ? 1 : 0);
            }
        }
    }

    private void feed() {
        doc.promise(18);
        TrainDescriber x = doc.says("Twenty bytes come behind the TAPE, four of each number, the highest first: how many"
                + " it has.");
        // "clear 0 at drop 1  \377": the last byte is the only one at fault, so all nineteen are where they belong.
        due(20, x.feed(0x636c6561, 0x72203020, 0x61742064, 0x726f7020, 0x312020ff));
        due(20, x.count(7));
        due(-6, x.rules());
        due(19, x.fault());
        due(20, x.feed(0x636c6561, 0x72203020, 0x61742064, 0x726f7020, 0x31202020));
        due(40, x.feed(0x20202020, 0x20202020, 0x20202020, 0x20202020, 0x20202020));
        due(1, x.rules());
        // Behind what is there, though that is no row of twenties.
        x.feed(0x636c6561, 0x72203020, 0, 0, 0);
        due(8, x.end(8));
        due(28, x.feed(0x61742064, 0x726f7020, 0x31202020, 0x20202020, 0x20202020));
        due(1, x.rules());

        TrainDescriber y = doc.says("NONE, if there would be more than 400.");
        for (int i = 1; i <= 20; i++) {
            due(20 * i, y.feed(MIN, MAX, 0, -1, 1));
        }
        due(-1, y.feed(0, 0, 0, 0, 0));
        due(400, y.count(7));
        y.end(381);
        due(-1, y.feed(0, 0, 0, 0, 0));
        due(381, y.count(7));
        y.end(380);
        due(400, y.feed(0, 0, 0, 0, 0));
    }

    private void end() {
        doc.promise(19);
        TrainDescriber x = doc.says("The TAPE has its first n bytes alone: n.");
        x.feed(0x636c6561, 0x72203020, 0x61742064, 0x726f7020, 0x31202031);
        due(20, x.end(20));
        due(19, x.end(19));
        due(19, x.count(7));
        due(1, x.rules());
        x.feed(0, 0, 0, 0, 0);
        due(0, x.end(0));
        due(0, x.count(7));
        due(0, x.end(0));

        TrainDescriber y = doc.says("NONE, if it has not so many, or n is below 0.");
        due(-1, y.end(1));
        y.feed(0, 0, 0, 0, 0);
        for (int n : new int[] {-1, 21, 400, 401, MIN, MAX}) {
            due(-1, y.end(n));
            due(20, y.count(7));
        }
        y.end(7);
        due(-1, y.end(8));
        due(7, y.count(7));
    }

    private void use() {
        doc.promise(20);
        TrainDescriber x = doc.says("A set of RULES is in USE: which was.");
        due(0, x.use(0));
        due(0, x.use(1));
        due(1, x.use(1));
        due(1, x.use(0));
        due(0, x.use(1));

        TrainDescriber y = doc.says("-1.");
        y.use(1);
        for (int set : new int[] {-1, 2, MIN, MAX}) {
            due(-1, y.use(set));
            due(-1, y.status());
        }
        due(1, y.use(1));
    }

    private void rules() {
        doc.promise(21);
        TrainDescriber x = doc.says("The TAPE, which is empty then, becomes the RULES of the set in USE: how many"
                + " CLAUSES.");
        due(1, Check.rules(x, many(1)));
        due(0, x.count(7));
        due(16, Check.rules(x, many(16)));
        due(16, x.count(0));
        due(2, Check.rules(x, many(2)));
        due(2, x.count(0));
        x.use(1);
        due(0, x.count(0));
        due(3, Check.rules(x, many(3)));
        x.use(0);
        due(2, x.count(0));
        // As many tests as a text has room for, again and again: each time they are read whole.
        String large = "clear0at drop0if full1" + "or full1".repeat(47);
        for (int i = 0; i < 6; i++) {
            due(1, Check.rules(x, large));
            x.interpose(0, 0, 5);
            x.event(0, 0, 0);
            due(0, x.event(0, 0, 1));
            due(1, Check.rules(x, large.substring(0, large.length() - 5) + "full0"));
            x.event(0, 0, 0);
            due(1, x.event(0, 0, 1));
        }
        // Those of before are gone: their clauses do nothing any more.
        Check.rules(x, "step 0 to 1 at drop 1;step 2 to 3 at drop 1");
        Check.rules(x, "clear 5 at drop 2");
        x.interpose(0, 0, 5);
        x.interpose(0, 2, 5);
        due(0, x.event(0, 1, 1));

        TrainDescriber y = doc.says("-6 (blanks alone: FAULT at the end; those before stay).");
        Check.rules(y, "step 0 to 1 at drop 1;step 2 to 3 at drop 1");
        due(-6, y.rules());
        due(-6, y.status());
        due(0, y.fault());
        due(-6, Check.rules(y, "   "));
        due(3, y.fault());
        due(0, y.count(7));
        due(-6, Check.rules(y, "clear 0 at drop 1;clear 1 at drop 1;clear 2 at drop 1;x"));
        due(0, y.count(7));
        due(2, y.count(0));
        y.interpose(0, 0, 5);
        y.interpose(0, 2, 6);
        due(2, y.event(0, 1, 1));
        due(5, y.berth(1, 0));
        due(6, y.berth(3, 0));
    }

    private void fault() {
        doc.promise(22);
        TrainDescriber x = doc.says("FAULT of the latest rules(): its place;");
        Check.rules(x, "clear 0 at drop 1;x");
        due(18, x.fault());
        due(18, x.fault());
        x.run();
        x.use(5);
        x.feed(0, 0, 0, 0, 0);
        due(18, x.fault());
        x.end(0);
        Check.rules(x, "x");
        due(0, x.fault());

        TrainDescriber y = doc.says("NONE without.");
        due(-1, y.fault());
        Check.rules(y, "x");
        due(1, Check.rules(y, many(1)));
        due(-1, y.fault());
        y.run();
        due(-1, y.fault());
    }
}
