/** Terms IV; promises 31 to 37. */
final class EdgesOfMending extends Edges {
    EdgesOfMending(Ledger doc) {
        super(doc);
    }

    @Override
    void all() {
        doc.section("Terms");
        links();
        trains();
        seen();
        starts();
        mendings();
        slips();
        best();
        link();
        train();
        start();
        see();
        mend();
        mended();
        clear();
    }

    /** 24 links of which none goes to berth 11 or from it. */
    private static void fill(TrainDescriber x) {
        for (int i = 0; i < 24; i++) {
            int from = i / 8;
            x.link(from, i % 8 + (i % 8 >= from ? 1 : 0), 60);
        }
    }

    private void links() {
        TrainDescriber x = doc.says("LINKS, 24 at most: from a BERTH to another one in at least 0 .. 60 MINUTES (told"
                + " again: the later one counts).");
        fill(x);
        due(24, x.count(3));
        due(-5, x.link(11, 0, 0));
        due(24, x.link(0, 1, 0));
        due(24, x.count(3));
        TrainDescriber y = new TrainDescriber();
        y.link(0, 1, 60);
        y.train(5);
        y.see(0, 0, 5);
        y.see(59, 1, 5);
        due(-1, y.mend(0));
        y.link(0, 1, 59);
        due(0, y.mend(0));
        // Later counts though it is longer.
        y.link(0, 1, 60);
        due(-1, y.mend(0));
        // One way alone.
        y.link(1, 0, 0);
        due(-1, y.mend(0));
        y.link(0, 1, 0);
        due(0, y.mend(0));
        due(2, y.count(3));
    }

    private void trains() {
        TrainDescriber x = doc.says("TRAINS 0 .. 2: NAMES 1 .. 999.");
        due(-1, x.train(0));
        due(-1, x.train(1000));
        due(0, x.train(1));
        due(1, x.train(999));
        due(2, x.train(500));
        due(-5, x.train(5));
        x.see(0, 0, 999);
        x.see(0, 0, 500);
        x.see(0, 0, 1);
        due(0, x.mend(0));
        due(1, x.mended(0, 0));
        due(2, x.mended(1, 0));
        due(0, x.mended(2, 0));
    }

    private void seen() {
        TrainDescriber x = doc.says("SEEN, 16 at most: in a MINUTE (not ahead of the one told before), at a BERTH, a NAME"
                + " 0 .. 999 (0: none was read).");
        x.train(5);
        due(0, x.see(9998, 0, 0));
        due(-3, x.see(9997, 0, 0));
        due(1, x.see(9998, 0, 999));
        due(-1, x.see(9998, 0, 1000));
        due(-1, x.see(9998, 0, -1));
        due(1, x.mend(0));
        for (int i = 2; i < 16; i++) {
            due(i, x.see(9999, 0, 0));
        }
        due(-5, x.see(9999, 0, 0));
        due(16, x.count(5));
        due(1, x.mend(0));
        // The minutes of names that move and those that are seen are apart.
        TrainDescriber y = new TrainDescriber();
        y.interpose(500, 0, 5);
        due(0, y.see(3, 0, 5));
        due(500, y.count(8));
        y.see(900, 0, 5);
        due(5, y.cancel(500, 0));
    }

    private void starts() {
        TrainDescriber x = doc.says("A TRAIN may have a START: a BERTH and a MINUTE.");
        x.train(5);
        x.train(5);
        x.see(10, 3, 5);
        due(2, x.mend(1));
        x.start(0, 4, 0);
        due(1, x.mend(1));
        due(1, x.mended(0, 0));
        x.start(0, 3, 10);
        due(2, x.mend(1));
        x.start(0, -1, 0);
        x.start(1, 11, 9999);
        due(0, x.mended(0, 0));
        due(1, x.mend(1));
    }

    private void mendings() {
        TrainDescriber x = doc.says("A MENDING gives each SEEN one a TRAIN, so that each TRAIN can be where it was seen:"
                + " from one to the next of it by LINKS in as many MINUTES as there are (to the same BERTH in any),");
        x.train(5);
        x.link(0, 1, 3);
        x.link(1, 2, 4);
        x.see(10, 0, 5);
        x.see(17, 2, 5);
        due(1, x.mend(1));
        x.link(1, 2, 5);
        due(-1, x.mend(1));
        x.link(0, 2, 7);
        due(1, x.mend(1));
        rounds();
        // To the same berth in no minutes and in many, without a link.
        TrainDescriber y = new TrainDescriber();
        y.train(5);
        y.see(0, 11, 5);
        y.see(0, 11, 5);
        y.see(9999, 11, 5);
        due(1, y.mend(1));
        y.see(9999, 10, 5);
        due(-1, y.mend(1));
        // From one to the next of its own train: the other's are passed over.
        TrainDescriber z = new TrainDescriber();
        z.train(5);
        z.train(6);
        z.see(0, 0, 5);
        z.see(1, 7, 6);
        z.see(2, 0, 5);
        z.see(3, 7, 6);
        due(0, z.mend(0));
        due(1, z.mend(1));
        // Back to where it was, around by other berths.
        TrainDescriber w = new TrainDescriber();
        w.train(5);
        w.link(0, 1, 0);
        w.link(1, 0, 60);
        w.see(0, 0, 5);
        w.see(0, 1, 5);
        w.see(59, 0, 5);
        due(-1, w.mend(1));
        w.link(1, 0, 59);
        due(1, w.mend(1));

        TrainDescriber s = doc.says("to its first one from its START, if it has one, likewise (none ahead of that"
                + " MINUTE).");
        s.train(5);
        s.link(0, 1, 3);
        s.see(10, 1, 5);
        due(1, s.mend(1));
        s.start(0, 0, 8);
        due(-1, s.mend(1));
        s.start(0, 0, 7);
        due(1, s.mend(1));
        s.start(0, 1, 11);
        due(-1, s.mend(1));
        s.start(0, 1, 10);
        due(1, s.mend(1));
        s.start(0, 1, 0);
        due(1, s.mend(1));
        // A link of no minutes from a start that is still to come.
        s.link(0, 1, 0);
        s.start(0, 0, 11);
        due(-1, s.mend(1));
        s.start(0, 0, 10);
        due(1, s.mend(1));
        // Its first one alone: the second is reached from the first.
        s.see(12, 2, 5);
        s.link(1, 2, 2);
        due(1, s.mend(1));
        // A train that is never seen may start anywhere, at any time.
        s.train(9);
        s.start(1, 11, 9999);
        due(1, s.mend(1));
    }

    /** A row of links through all berths, up and down: each berth is one to go through. */
    private void rounds() {
        for (int way : new int[] {1, 11, 5, 7}) {
            TrainDescriber x = new TrainDescriber();
            x.train(5);
            for (int i = 0; i < 12; i++) {
                x.link(i * way % 12, (i + 1) * way % 12, 1);
            }
            for (int from = 0; from < 12; from++) {
                for (int far = 0; far < 12; far++) {
                    int to = (from + far * way) % 12;
                    x.start(0, from, 10);
                    x.see(10 + far, to, 5);
                    due(1, x.mend(1));
                    x.start(0, from, 11);
                    due(-1, x.mend(1));
                    x.clear();
                    x.train(5);
                }
            }
        }
    }

    private void slips() {
        TrainDescriber x = doc.says("SLIPS are those that have a NAME which is not their TRAIN's.");
        x.train(5);
        x.see(0, 0, 5);
        due(0, x.mend(0));
        x.see(0, 0, 0);
        due(0, x.mend(0));
        x.see(0, 0, 6);
        due(1, x.mend(0));
        x.see(0, 0, 999);
        due(2, x.mend(0));
        // Two trains of one name: it is a slip of neither.
        x.clear();
        x.train(5);
        x.train(5);
        x.see(0, 0, 5);
        due(0, x.mend(0));
        due(2, x.mend(1));
    }

    private void best() {
        TrainDescriber x = doc.says("BEST are all MENDINGS with the fewest SLIPS.");
        x.train(5);
        x.train(6);
        x.see(0, 0, 5);
        x.see(0, 1, 0);
        // By train 0 it would be seen in two berths at once, by train 1 in one each.
        due(0, x.mend(0));
        due(1, x.mend(1));
        x.link(0, 1, 0);
        due(2, x.mend(1));
        x.see(0, 1, 7);
        due(1, x.mend(0));
        due(4, x.mend(1));
        // With two slips there would be more of them: they don't count.
        x.clear();
        x.train(5);
        x.train(6);
        x.train(7);
        for (int i = 0; i < 16; i++) {
            x.see(i, 0, 6);
        }
        due(0, x.mend(0));
        due(1, x.mend(1));
        due(1, x.mended(15, 0));
    }

    private void link() {
        doc.promise(31);
        TrainDescriber x = doc.says("A LINK: how many there are.");
        due(1, x.link(0, 11, 0));
        due(2, x.link(11, 0, 60));
        due(2, x.link(0, 11, 60));
        due(2, x.count(3));

        TrainDescriber y = doc.says("-1 (to the same BERTH, too);");
        int[][] wrong = {{0, 0, 5}, {11, 11, 5}, {-1, 0, 5}, {12, 0, 5}, {0, -1, 5}, {0, 12, 5}, {0, 1, -1}, {0, 1, 61},
            {MIN, 0, 5}, {MAX, 0, 5}, {0, MIN, 5}, {0, MAX, 5}, {0, 1, MIN}, {0, 1, MAX}};
        for (int[] w : wrong) {
            due(-1, y.link(w[0], w[1], w[2]));
            due(-1, y.status());
            due(0, y.count(3));
        }

        TrainDescriber z = doc.says("-5.");
        fill(z);
        due(24, z.count(3));
        due(-5, z.link(11, 0, 5));
        due(-5, z.status());
        due(24, z.count(3));
        z.interpose(0, 11, 5);
        z.cancel(0, 11);
        due(2048, z.found(5, 9999));
        due(24, z.link(0, 1, 5));
        due(0, z.status());
    }

    private void train() {
        doc.promise(32);
        TrainDescriber x = doc.says("A TRAIN with a NAME: its number.");
        due(0, x.train(999));
        due(1, x.train(999));
        due(2, x.train(1));
        due(3, x.count(4));

        TrainDescriber y = doc.says("-1;");
        for (int name : new int[] {0, -1, 1000, MIN, MAX}) {
            due(-1, y.train(name));
            due(-1, y.status());
            due(0, y.count(4));
        }

        TrainDescriber z = doc.says("-5 three are there.");
        z.train(1);
        z.train(2);
        due(2, z.train(3));
        due(-5, z.train(4));
        due(-5, z.status());
        due(3, z.count(4));
        z.clear();
        due(0, z.train(4));
    }

    private void start() {
        doc.promise(33);
        TrainDescriber x = doc.says("START of a TRAIN (a BERTH NONE: none any more): 0.");
        x.train(5);
        x.train(6);
        x.train(7);
        x.see(0, 0, 7);
        due(0, x.start(2, 11, 9999));
        due(1, x.mend(0));
        due(0, x.start(2, -1, 9999));
        due(0, x.mend(0));
        due(0, x.start(2, 0, 0));
        due(0, x.mend(0));
        due(0, x.start(0, 0, 0));

        TrainDescriber y = doc.says("-1;");
        y.train(5);
        y.see(0, 0, 5);
        int[][] wrong = {{0, -2, 5}, {0, 12, 5}, {0, 0, -1}, {0, 0, 10000}, {0, MIN, 5}, {0, MAX, 5}, {0, 0, MIN},
            {0, 0, MAX}, {0, -1, 10000}, {5, 12, 5}};
        for (int[] w : wrong) {
            due(-1, y.start(w[0], w[1], w[2]));
            due(-1, y.status());
            due(0, y.mend(0));
        }

        TrainDescriber z = doc.says("-2.");
        due(-2, z.start(0, 0, 0));
        due(-2, z.start(0, -1, 0));
        z.train(5);
        due(0, z.start(0, 0, 0));
        for (int train : new int[] {-1, 1, 2, 3, MIN, MAX}) {
            due(-2, z.start(train, 0, 0));
            due(-2, z.status());
        }
    }

    private void see() {
        doc.promise(34);
        TrainDescriber x = doc.says("What was SEEN: its number.");
        due(0, x.see(0, 0, 0));
        due(1, x.see(0, 11, 999));
        due(2, x.see(9999, 11, 1));
        due(3, x.count(5));

        TrainDescriber y = doc.says("-1;");
        int[][] wrong = {{-1, 0, 5}, {10000, 0, 5}, {0, -1, 5}, {0, 12, 5}, {0, 0, -1}, {0, 0, 1000}, {MIN, 0, 5},
            {MAX, 0, 5}, {0, MIN, 5}, {0, MAX, 5}, {0, 0, MIN}, {0, 0, MAX}};
        for (int[] w : wrong) {
            due(-1, y.see(w[0], w[1], w[2]));
            due(-1, y.status());
            due(0, y.count(5));
        }

        TrainDescriber z = doc.says("-3 ahead of the one before;");
        z.see(7, 0, 5);
        due(-3, z.see(6, 0, 5));
        due(-3, z.status());
        due(1, z.count(5));
        due(1, z.see(7, 0, 5));
        due(2, z.see(9, 0, 5));
        due(-3, z.see(8, 0, 5));

        TrainDescriber w = doc.says("-5.");
        for (int i = 0; i < 16; i++) {
            due(i, w.see(7, 0, 5));
        }
        due(-5, w.see(7, 0, 5));
        due(-5, w.status());
        due(16, w.count(5));
    }

    private void mend() {
        doc.promise(35);
        TrainDescriber x = doc.says("BEST: how many SLIPS (what 0), how many MENDINGS (1; 1,000,000,000 at most).");
        x.train(1);
        x.train(2);
        x.train(3);
        for (int i = 0; i < 16; i++) {
            x.see(0, 0, i < 4 ? 999 : 0);
        }
        // Any row of three trains and sixteen seen: as many as there can ever be, below the limit.
        due(4, x.mend(0));
        due(43046721, x.mend(1));
        x.clear();
        x.train(1);
        for (int i = 0; i < 16; i++) {
            x.see(0, 0, 2);
        }
        due(16, x.mend(0));
        due(1, x.mend(1));
        due(-1, x.mend(-1));
        due(-1, x.mend(2));
        due(-1, x.mend(MIN));
        due(-1, x.mend(MAX));

        TrainDescriber y = doc.says("NONE: none at all (no TRAINS, too; nothing SEEN: 0, 1).");
        due(0, y.mend(0));
        due(1, y.mend(1));
        y.see(0, 0, 0);
        due(-1, y.mend(0));
        due(-1, y.mend(1));
        y.train(5);
        due(0, y.mend(0));
        due(1, y.mend(1));
        y.see(0, 1, 0);
        due(-1, y.mend(0));
        due(-1, y.mend(1));
        y.clear();
        y.train(5);
        y.start(0, 0, 9999);
        due(0, y.mend(0));
        due(1, y.mend(1));
    }

    private void mended() {
        doc.promise(36);
        TrainDescriber x = doc.says("Of the first BEST MENDING (as a row of TRAINS) the TRAIN of the i-th SEEN (what 0);");
        x.train(5);
        x.train(5);
        x.train(5);
        x.see(0, 0, 5);
        x.see(0, 1, 5);
        x.see(0, 2, 5);
        // Each train at one berth alone: the first of six rows.
        due(6, x.mend(1));
        for (int i = 0; i < 3; i++) {
            due(i, x.mended(i, 0));
        }
        x.see(5, 1, 5);
        due(1, x.mended(3, 0));
        // The first row counts from its first train on: 0 there, though the second is then a higher one.
        x.clear();
        x.train(5);
        x.train(6);
        x.see(0, 0, 0);
        x.see(0, 1, 0);
        due(0, x.mended(0, 0));
        due(1, x.mended(1, 0));
        // Each of three trains goes on from where it was seen itself; the first time the third is misread.
        x.clear();
        x.train(5);
        x.train(6);
        x.train(7);
        x.see(0, 0, 5);
        x.see(0, 1, 6);
        x.see(0, 2, 99);
        x.see(0, 2, 7);
        x.see(1, 1, 6);
        x.see(1, 2, 7);
        x.see(1, 0, 5);
        x.see(2, 2, 7);
        x.see(2, 1, 6);
        int[] row = {0, 1, 2, 2, 1, 2, 0, 2, 1};
        due(1, x.mend(0));
        for (int i = 0; i < row.length; i++) {
            due(row[i], x.mended(i, 0));
            due(1, x.mended(i, 1));
        }
        // Fewest slips go ahead of a lower row.
        x.clear();
        x.train(5);
        x.train(6);
        x.see(0, 0, 6);
        due(1, x.mended(0, 0));

        TrainDescriber y = doc.says("whether it is that in all BEST ones: 1, 0 (1).");
        y.train(5);
        y.train(6);
        y.see(0, 0, 6);
        y.see(0, 0, 0);
        y.see(0, 0, 7);
        due(1, y.mended(0, 1));
        due(0, y.mended(1, 1));
        due(0, y.mended(2, 1));
        y.start(0, 0, 1);
        due(1, y.mended(1, 1));
        due(1, y.mended(2, 1));
        due(1, y.mended(2, 0));

        TrainDescriber z = doc.says("NONE.");
        due(-1, z.mended(0, 0));
        due(-1, z.mended(0, 1));
        z.see(0, 0, 5);
        due(-1, z.mended(0, 0));
        due(-1, z.mended(0, 1));
        z.train(5);
        due(0, z.mended(0, 0));
        int[][] wrong = {{-1, 0}, {1, 0}, {0, -1}, {0, 2}, {MIN, 0}, {MAX, 0}, {0, MIN}, {0, MAX}, {16, 0}};
        for (int[] w : wrong) {
            due(-1, z.mended(w[0], w[1]));
        }
        z.see(0, 1, 5);
        due(-1, z.mended(0, 0));
        due(-1, z.mended(1, 1));
        z.link(0, 1, 0);
        due(0, z.mended(1, 0));
    }

    private void clear() {
        doc.promise(37);
        TrainDescriber x = doc.says("Nothing is SEEN, there are no TRAINS (and STARTS): how many SEEN there were.");
        due(0, x.clear());
        x.train(5);
        x.train(6);
        x.start(0, 3, 100);
        for (int i = 0; i < 16; i++) {
            x.see(50, 0, 6);
        }
        x.link(0, 1, 5);
        due(1, x.mend(1));
        due(0, x.mend(0));
        x.start(1, 3, 100);
        due(-1, x.mend(1));
        due(16, x.clear());
        due(1, x.mend(1));
        due(0, x.mend(0));
        due(0, x.count(5));
        due(0, x.count(4));
        due(1, x.count(3));
        due(0, x.clear());
        // A minute ahead of those that were seen; a train without the start that its number had.
        due(0, x.see(0, 0, 5));
        due(-1, x.mend(0));
        due(0, x.train(5));
        due(0, x.mend(0));
        due(1, x.mend(1));
    }
}
