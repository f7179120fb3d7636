/** What the tests of the project share: texts for the tape, and a count of the answers that are not as due. */
final class Due {
    private int wrong = 0;
    private int asked = 0;
    private String sentence = "";
    LieCandles x = new LieCandles();

    void anew() {
        x = new LieCandles();
    }

    /** What follows is due by this sentence of the document, and has an object of its own. */
    void sentence(String told) {
        sentence = told;
        anew();
    }

    void due(String call, long want, long got) {
        asked++;
        if (got != want) {
            miss(call, want, got);
        }
    }

    void due(String call, boolean want, boolean got) {
        due(call, want ? 1 : 0, got ? 1 : 0);
    }

    void due(String call, String want, String got) {
        asked++;
        if (!want.equals(got)) {
            miss(call, want, got);
        }
    }

    private void miss(String call, Object want, Object got) {
        wrong++;
        System.out.println(call + " answered " + got + ", due is " + want + (sentence.isEmpty() ? "" : " by: " + sentence));
    }

    /** The tape is this text alone. */
    void tape(String text) {
        x.end(0);
        feedText(x, text);
    }

    static void feedText(LieCandles x, String text) {
        int[] bytes = new int[text.length()];
        for (int k = 0; k < bytes.length; k++) {
            bytes[k] = text.charAt(k);
        }
        feedBytes(x, bytes);
    }

    void tape(int... bytes) {
        x.end(0);
        feedBytes(x, bytes);
    }

    static void feedBytes(LieCandles x, int... bytes) {
        int length = 0;
        for (int from = 0; from < bytes.length; from += 20) {
            int[] five = new int[5];
            for (int k = 0; k < 20; k++) {
                int next = from + k < bytes.length ? bytes[from + k] : ' ';
                five[k / 4] = five[k / 4] << 8 | next;
            }
            length = x.feed(five[0], five[1], five[2], five[3], five[4]);
        }
        x.end(length - (20 - bytes.length % 20) % 20);
    }

    void street(String text, int statements) {
        tape(text);
        due("street() of " + text, statements, x.street());
        due("fault(0) of " + text, 0, x.fault(0));
        due("fault(1) of " + text, -1, x.fault(1));
    }

    /** The text has this FAULT where the mark @ stands in it. */
    void streetFault(int fault, String marked) {
        String text = marked.replace("@", "");
        tape(text);
        due("street() of " + text, -1, x.street());
        dueFault(fault, marked);
    }

    private void dueFault(int fault, String marked) {
        due("fault(0) of " + marked, fault, x.fault(0));
        due("fault(1) of " + marked, marked.indexOf('@'), x.fault(1));
    }

    void ask(String text, long answer) {
        tape(text);
        due("ask() of " + text, answer, x.ask());
        due("fault(0) of " + text, 0, x.fault(0));
        due("fault(1) of " + text, -1, x.fault(1));
    }

    void askFault(int fault, String marked) {
        String text = marked.replace("@", "");
        tape(text);
        due("ask() of " + text, LieCandles.NOTHING, x.ask());
        dueFault(fault, marked);
    }

    void close() {
        System.out.println(asked + " answers, " + wrong + " not as due");
        if (wrong != 0 || asked == 0) {
            System.exit(1);
        }
    }
}
