/** Promises 34 to 37: image, octet, on, status. */
final class ImageTest {
    private static final String STREET = "street 30;person a at 1 trust 3;person b at 29 trust 8;lie x of a;lie y of b;lie z of b;tallow 700;burns 1;";

    public static void main(String[] args) {
        Due t = new Due();
        t.due("octet(0) ahead of any", -1, t.x.octet(0));
        t.due("image() without a street", 5, t.x.image());
        dueImage(t, 0, 0, 0, 0, 224);
        t.tape(0, 0, 0, 0, 224);
        t.due("on() without a street", false, t.x.on());
        t.due("the tape goes", false, t.x.end(1));
        t.due("status(5)", 1, t.x.status(5));
        t.street(STREET, 8);
        t.due("octets stay", 224, t.x.octet(4));
        t.x.light(0, 99);
        t.x.light(2, 7);
        t.x.hours(5);
        t.x.hours(1);
        t.x.move(0, 0);
        t.due("image()", 13, t.x.image());
        dueImage(t, checked(0, 6, 2, 82, 0, 29, 93, 6, 0, 0, 1, 6));
        t.x.hours(1);
        dueImage(t, checked(0, 6, 2, 82, 0, 29, 93, 6, 0, 0, 1, 6));
        taking(t);
        refusing(t);
        t.due("status(-1)", -1, t.x.status(-1));
        t.due("status(6)", -1, t.x.status(6));
        t.close();
    }

    private static int[] checked(int... bytes) {
        int[] all = java.util.Arrays.copyOf(bytes, bytes.length + 1);
        int c = 167;
        for (int b : bytes) {
            c = (3 * c + b) % 251;
        }
        all[bytes.length] = c;
        return all;
    }

    private static void dueImage(Due t, int... bytes) {
        for (int k = 0; k < bytes.length; k++) {
            t.due("octet(" + k + ")", bytes[k], t.x.octet(k));
        }
        t.due("octet behind them", -1, t.x.octet(bytes.length));
        t.due("octet(-1)", -1, t.x.octet(-1));
    }

    private static void taking(Due t) {
        t.tape(3, 2, 1);
        t.due("see()", 1, t.x.see());
        t.due("kept", 1, t.x.has(8));
        t.tape(checked(3, 231, 3, 231, 29, 0, 99, 99, 1, 0, 0, 0));
        t.due("on()", true, t.x.on());
        t.due("the tape goes", false, t.x.end(1));
        int[] want = {30, 2, 3, 0, 999, 999, 2, 2, 0, 1, 0};
        for (int what = 0; what < want.length; what++) {
            t.due("has(" + what + ")", want[what], t.x.has(what));
        }
        t.due("window", 29, t.x.person(0, 0));
        t.due("window", 0, t.x.person(1, 0));
        t.due("candle", 99, t.x.lie(0, 1));
        t.due("told", 99, t.x.lie(0, 2));
        t.due("candle", 1, t.x.lie(1, 1));
        t.due("told", 0, t.x.lie(1, 2));
        t.due("undo", false, t.x.undo());
        t.tape(checked(0, 3, 0, 0, 0, 0, 0, 0, 0, 0, 0, 0));
        t.due("on()", true, t.x.on());
        t.due("HOUR", 3, t.x.has(4));
        t.x.buy(5);
    }

    private static void refusing(Due t) {
        int before = t.x.status(5);
        int[] good = {0, 3, 0, 0, 0, 0, 0, 0, 0, 0, 0, 0};
        int[][] wrong = {{0, 4}, {1, 232, 0, 3}, {2, 4}, {3, 232, 2, 3}, {4, 30}, {5, 255}, {6, 100}, {7, 1}, {7, 100, 6, 1}, {9, 1}, {10, 100}, {11, 1}};
        for (int[] w : wrong) {
            int[] bytes = good.clone();
            for (int k = 0; k < w.length; k += 2) {
                bytes[w[k]] = w[k + 1];
            }
            t.tape(checked(bytes));
            t.due("on() of " + java.util.Arrays.toString(bytes), false, t.x.on());
            t.due("the tape goes", false, t.x.end(1));
        }
        int[] last = checked(good);
        last[12] = (last[12] + 1) % 256;
        t.tape(last);
        t.due("on() with another last byte", false, t.x.on());
        t.tape(good);
        t.due("on(), too short", false, t.x.on());
        t.tape(checked(java.util.Arrays.copyOf(good, 13)));
        t.due("on(), too long", false, t.x.on());
        t.tape();
        t.due("on() of nothing", false, t.x.on());
        t.due("status(5)", before + wrong.length + 4, t.x.status(5));
        t.due("all stays", 3, t.x.has(4));
        t.due("all stays", 5, t.x.has(5));
        t.due("all stays", 1, t.x.has(10));
    }
}
