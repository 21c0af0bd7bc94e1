/** Promises 13, 15 and 16: encryption, decryption and its results; for every code there is. */
public final class CipherTest {
    private static final Due due = new Due("CipherTest");

    public static void main(String[] args) {
        resultsBeforeAndAfter();
        encryptionKeepsTheRest();
        decryptionKeepsTheRest();
        for (int poly : Inputs.rootlessPolys()) {
            for (int shift = 0; shift < 16; shift++) {
                GoppaCrypt x = new GoppaCrypt(poly, shift);
                Reference r = new Reference(poly, shift);
                String name = " of (" + poly + ", " + shift + ")";
                roundTrips(name, x, r);
                everyReceivedWord(name, x, r);
            }
        }
        due.end();
    }

    private static void roundTrips(String name, GoppaCrypt x, Reference r) {
        for (int m = 0; m < r.code.size(); m++) {
            due.is("setMessage(" + m + ")" + name, x.setMessage(m), true);
            String withMessage = " with message " + m + name;
            for (int first = -1; first < 12; first++) {
                for (int second = first; second < 12; second++) {
                    int e = first < 0 ? 0 : (1 << first) | (1 << second);
                    roundTrip(withMessage, x, r, m, e);
                }
            }
        }
    }

    private static void roundTrip(String name, GoppaCrypt x, Reference r, int m, int e) {
        due.is("setErrors", e, name, x.setErrors(e) ? 1 : 0, 1);
        due.is("encrypt() after setErrors", e, name, x.encrypt(), r.codewords[m] ^ e);
        due.is("decrypt() after setErrors", e, name, x.decrypt(), Integer.bitCount(e));
        due.is("decodedMessage() after setErrors", e, name, x.decodedMessage(), m);
        due.is("foundErrors() after setErrors", e, name, x.foundErrors(), e);
    }

    private static void everyReceivedWord(String name, GoppaCrypt x, Reference r) {
        int failures = 0;
        for (int w = 0; w < 4096; w++) {
            failures += r.foundIn(w) == -1 ? 1 : 0;
            due.is("setReceived", w, name, x.setReceived(w) ? 1 : 0, 1);
            due.is("decrypt() after setReceived", w, name, x.decrypt(), r.weightIn(w));
            due.is("foundErrors() after setReceived", w, name, x.foundErrors(), r.foundIn(w));
            due.is("decodedMessage() after setReceived", w, name, x.decodedMessage(), r.decodedFrom(w));
        }
        due.is("words that fail" + name, failures, 4096 - 79 * r.code.size());
    }

    private static void results(String when, GoppaCrypt x, int message, int errors) {
        due.is("decodedMessage() " + when, x.decodedMessage(), message);
        due.is("foundErrors() " + when, x.foundErrors(), errors);
        due.is("decodedMessage() again " + when, x.decodedMessage(), message);
        due.is("foundErrors() again " + when, x.foundErrors(), errors);
    }

    // The words are from the runs under ../shared/tests: 3486 is message 5 with errors 2064; 7 fails.
    private static void resultsBeforeAndAfter() {
        GoppaCrypt x = new GoppaCrypt(0, 2);
        results("at the start", x, -1, -1);
        x.setMessage(5);
        x.setErrors(2064);
        results("after the setters", x, -1, -1);
        due.is("encrypt()", x.encrypt(), 3486);
        results("after encrypt()", x, -1, -1);
        due.is("decrypt()", x.decrypt(), 2);
        results("after decrypt()", x, 5, 2064);
        x.setMessage(1);
        x.setErrors(1);
        x.encrypt();
        x.setReceived(7);
        results("until the next decrypt()", x, 5, 2064);
        due.is("decrypt() of 7", x.decrypt(), -1);
        results("after a failed decrypt()", x, -1, -1);
        due.is("decrypt() of 7 again", x.decrypt(), -1);
        results("after a second failed decrypt()", x, -1, -1);
        x.setReceived(0);
        results("before the next decrypt()", x, -1, -1);
        due.is("decrypt() of 0", x.decrypt(), 0);
        results("after a decrypt() of 0", x, 0, 0);
        x.setReceived(7);
        due.is("decrypt() of 7 after success", x.decrypt(), -1);
        results("after success and failure", x, -1, -1);
    }

    private static void encryptionKeepsTheRest() {
        Reference r = new Reference(77, 9);
        GoppaCrypt x = new GoppaCrypt(77, 9);
        x.setReceived(r.codewords[12] ^ 520);
        x.decrypt();
        for (int m = 0; m < r.code.size(); m++) {
            x.setMessage(m);
            x.setErrors(1 << (m % 12));
            int want = r.codewords[m] ^ (1 << (m % 12));
            due.is("encrypt() of " + m, x.encrypt(), want);
            due.is("encrypt() of " + m + " again", x.encrypt(), want);
            x.setReceived(4095);
            due.is("encrypt() of " + m + " over another received word", x.encrypt(), want);
            results("after encrypt() of " + m, x, 12, 520);
        }
    }

    private static void decryptionKeepsTheRest() {
        Reference r = new Reference(200, 4);
        GoppaCrypt x = new GoppaCrypt(200, 4);
        x.setMessage(10);
        x.setErrors(1028);
        for (int w = 0; w < 4096; w++) {
            x.setReceived(w);
            int first = x.decrypt();
            due.is("decrypt() of " + w + " again", x.decrypt(), first);
            results("after decrypt() of " + w + " twice", x, r.decodedFrom(w), r.foundIn(w));
            due.is("encrypt() after decrypt() of " + w, x.encrypt(), r.codewords[10] ^ 1028);
        }
    }
}
