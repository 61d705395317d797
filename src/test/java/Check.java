/** Compares answers with those that are due, and counts what differs. */
final class Check {
    private final String about;
    private int wrong;
    private int asked;

    Check(String about) {
        this.about = about;
    }

    void due(String call, long want, long got) {
        asked++;
        if (got != want) {
            wrong++;
            System.out.println(about + ": " + call + " answered " + got + ", due is " + want);
        }
    }

    void end() {
        if (wrong != 0) {
            System.out.println(about + ": " + wrong + " of " + asked + " answers are not as due");
            System.exit(1);
        }
        System.out.println(about + ": all " + asked + " answers are as due");
    }

    /** Puts bytes on an empty tape. */
    static void tape(TrainDescriber x, int... bytes) {
        x.end(0);
        for (int i = 0; i < bytes.length; i += 20) {
            int[] five = new int[5];
            for (int k = 0; k < 20; k++) {
                int b = i + k < bytes.length ? bytes[i + k] : 0;
                five[k / 4] = five[k / 4] << 8 | b & 255;
            }
            x.feed(five[0], five[1], five[2], five[3], five[4]);
        }
        x.end(bytes.length);
    }

    static int[] bytes(String text) {
        int[] bytes = new int[text.length()];
        for (int i = 0; i < bytes.length; i++) {
            bytes[i] = text.charAt(i);
        }
        return bytes;
    }

    static int rules(TrainDescriber x, String text) {
        tape(x, bytes(text));
        return x.rules();
    }

    /** A run of events: a track that drops, or with 100 added one that picks up. */
    static int run(TrainDescriber x, int... tracks) {
        int[] row = new int[2 * tracks.length];
        for (int i = 0; i < tracks.length; i++) {
            row[2 * i] = 1;
            row[2 * i + 1] = tracks[i] >= 100 ? tracks[i] - 100 : tracks[i] + 128;
        }
        tape(x, row);
        return x.run();
    }
}
