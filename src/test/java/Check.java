/** What the tests have in common: texts that are told, objects made of them, wrong answers counted. */
class Check {
    static final int NONE = SolidsUnfolded.NONE;
    static final int LEAST = Integer.MIN_VALUE;
    static final int MOST = Integer.MAX_VALUE;
    static final String CUBE = "cube 0 0 0";
    static final String TWO = "cube 0 0 0;cube 1 0 0";
    static final String BENT = "cube 0 0 0;cube 1 0 0;cube 0 1 0";
    static final String FOUR = "cube 0 0 0;cube 1 0 0;cube 1 1 0;cube 0 1 0";
    static final String STAR =
        "cube 3 3 3;cube 2 3 3;cube 4 3 3;cube 3 2 3;cube 3 4 3;cube 3 3 2;cube 3 3 4";
    /** Round a corner: the first and the last have an EDGE in common, and no third one is there. */
    static final String OPEN = "cube 0 0 0;cube 0 0 1;cube 1 0 1;cube 1 1 1;cube 1 1 0";
    private static final int MOST_SECONDS = 300;
    private static int wrong = 0;
    private static int tests = 0;

    // A call that does not come to an end fails the test, too.
    static {
        Thread watch = new Thread(() -> {
            try {
                Thread.sleep(1000L * MOST_SECONDS);
            } catch (InterruptedException over) {
                return;
            }
            System.out.println("not at an end after " + MOST_SECONDS + " seconds");
            Runtime.getRuntime().halt(1);
        });
        watch.setDaemon(true);
        watch.start();
    }

    static void due(String what, long got, long want) {
        tests++;
        if (got != want) {
            wrong++;
            if (wrong <= 40) {
                System.out.println(what + " answered " + got + ", due is " + want);
            }
        }
    }

    static void finish() {
        System.out.println(tests + " answers, " + wrong + " wrong");
        if (wrong != 0) {
            System.exit(1);
        }
    }

    /** The text alone is on the tape then (of at most 200 bytes). */
    static void put(Used x, String text) {
        x.end(0);
        StringBuilder full = new StringBuilder(text);
        while (full.length() % 20 != 0) {
            full.append('?');
        }
        for (int k = 0; k < full.length(); k += 20) {
            int[] n = new int[5];
            for (int i = 0; i < 20; i++) {
                n[i / 4] = n[i / 4] << 8 | full.charAt(k + i);
            }
            x.feed(n[0], n[1], n[2], n[3], n[4]);
        }
        x.end(text.length());
    }

    static int tell(Used x, String text) {
        put(x, text);
        return x.solid();
    }

    static Used made(String text) {
        Used x = new Used();
        tell(x, text);
        return x;
    }

    /** The first face with hinges to the four around it, the sixth behind one of them. */
    static Used cross() {
        Used x = made(CUBE);
        x.tree(0);
        return x;
    }
}
