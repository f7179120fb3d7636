/** Promises 1 to 3: a new object, feed, end. */
final class TapeTest {
    public static void main(String[] args) {
        Due t = new Due();
        for (int what = 0; what <= 10; what++) {
            t.due("has(" + what + ") of a new object", 0, t.x.has(what));
        }
        t.due("fault(0) ahead of any", 0, t.x.fault(0));
        t.due("fault(1) ahead of any", -1, t.x.fault(1));
        t.due("end(0) of an empty tape", true, t.x.end(0));
        t.due("end(1) of an empty tape", false, t.x.end(1));
        t.due("end(-1)", false, t.x.end(-1));
        t.due("status(0)", 2, t.x.status(0));
        for (int k = 1; k <= 80; k++) {
            t.due("feed " + k, 20 * k, t.x.feed(k, 0, -1, 1 << 31, 7));
        }
        t.due("feed beyond 1600", -1, t.x.feed(1, 2, 3, 4, 5));
        t.due("status(0)", 3, t.x.status(0));
        t.due("end(1601)", false, t.x.end(1601));
        t.due("end(1600)", true, t.x.end(1600));
        t.due("end(1581)", true, t.x.end(1581));
        t.due("feed to 1601", -1, t.x.feed(1, 2, 3, 4, 5));
        t.due("end(1580)", true, t.x.end(1580));
        t.due("feed to 1600", 1600, t.x.feed(1, 2, 3, 4, 5));
        t.due("status(0)", 5, t.x.status(0));

        // Each number's highest byte comes first, and the first n bytes are those that stay.
        t.anew();
        t.due("feed", 20, t.x.feed(0x73747265, 0x65742032, 0x3b207878, 0x20202020, 0x20202020));
        t.due("end(9)", true, t.x.end(9));
        t.due("street()", 1, t.x.street());
        t.due("has(0)", 2, t.x.has(0));
        t.due("the tape goes", false, t.x.end(1));
        t.close();
    }
}
