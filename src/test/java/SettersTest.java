/** Promises 11, 12 and 14: setting the message, the error mask and the received word. */
public final class SettersTest {
    private static final Due due = new Due("SettersTest");

    public static void main(String[] args) {
        for (int[] object : Inputs.OBJECTS) {
            Reference r = new Reference(object[0], object[1]);
            messages(object, r);
            errorMasks(object, r);
            receivedWords(object, r);
            for (int value = -20; value <= 4120; value++) {
                settersKeepTheRest(object, r, value);
            }
            for (int value : Inputs.FAR_OUTSIDE) {
                settersKeepTheRest(object, r, value);
            }
        }
        due.end();
    }

    private static String name(int[] object) {
        return " of (" + object[0] + ", " + object[1] + ")";
    }

    private static void messages(int[] object, Reference r) {
        GoppaCrypt x = new GoppaCrypt(object[0], object[1]);
        int current = 0;
        for (int m = -20; m <= 5000; m++) {
            current = oneMessage(x, r, m, current, name(object));
        }
        for (int m : Inputs.FAR_OUTSIDE) {
            current = oneMessage(x, r, m, current, name(object));
        }
    }

    private static int oneMessage(GoppaCrypt x, Reference r, int m, int current, String name) {
        boolean accepted = m >= 0 && m < r.code.size();
        int now = accepted ? m : current;
        due.is("setMessage(" + m + ")" + name, x.setMessage(m), accepted);
        due.is("encrypt() after setMessage(" + m + ")" + name, x.encrypt(), r.codewords[now]);
        return now;
    }

    private static void errorMasks(int[] object, Reference r) {
        GoppaCrypt x = new GoppaCrypt(object[0], object[1]);
        x.setMessage(9);
        int current = 0;
        int accepted = 0;
        for (int e = -20; e <= 9000; e++) {
            int now = oneErrorMask(x, r, e, current, name(object));
            accepted += e >= 0 && now == e ? 1 : 0;
            current = now;
        }
        due.is("accepted error masks" + name(object), accepted, 79);
        for (int e : Inputs.FAR_OUTSIDE) {
            current = oneErrorMask(x, r, e, current, name(object));
        }
    }

    private static int oneErrorMask(GoppaCrypt x, Reference r, int e, int current, String name) {
        boolean accepted = e >= 0 && e <= 4095 && Integer.bitCount(e) <= 2;
        int now = accepted ? e : current;
        due.is("setErrors(" + e + ")" + name, x.setErrors(e), accepted);
        due.is("encrypt() after setErrors(" + e + ")" + name, x.encrypt(), r.codewords[9] ^ now);
        return now;
    }

    private static void receivedWords(int[] object, Reference r) {
        GoppaCrypt x = new GoppaCrypt(object[0], object[1]);
        int current = 0;
        for (int w = -20; w <= 9000; w++) {
            current = oneReceivedWord(x, r, w, current, name(object));
        }
        for (int w : Inputs.FAR_OUTSIDE) {
            current = oneReceivedWord(x, r, w, current, name(object));
        }
    }

    private static int oneReceivedWord(GoppaCrypt x, Reference r, int w, int current, String name) {
        boolean accepted = w >= 0 && w <= 4095;
        int now = accepted ? w : current;
        due.is("setReceived(" + w + ")" + name, x.setReceived(w), accepted);
        x.decrypt();
        due.is("foundErrors() after setReceived(" + w + ")" + name, x.foundErrors(), r.foundIn(now));
        due.is("decodedMessage() after setReceived(" + w + ")" + name, x.decodedMessage(), r.decodedFrom(now));
        return now;
    }

    /** From a state in which all five parts differ, each setter moves its own part at the most. */
    private static void settersKeepTheRest(int[] object, Reference r, int value) {
        String name = " around value " + value + name(object);
        for (int setter = 0; setter < 3; setter++) {
            GoppaCrypt x = new GoppaCrypt(object[0], object[1]);
            int message = 6;
            int errors = 2050;
            int received = r.codewords[11] ^ 64;
            x.setReceived(r.codewords[13] ^ 33);
            x.decrypt();
            x.setMessage(message);
            x.setErrors(errors);
            x.setReceived(received);
            if (setter == 0 && x.setMessage(value)) {
                message = value;
            }
            if (setter == 1 && x.setErrors(value)) {
                errors = value;
            }
            if (setter == 2 && x.setReceived(value)) {
                received = value;
            }
            due.is("foundErrors()" + name, x.foundErrors(), 33);
            due.is("decodedMessage()" + name, x.decodedMessage(), 13);
            x.decrypt();
            due.is("foundErrors() then" + name, x.foundErrors(), r.foundIn(received));
            due.is("encrypt()" + name, x.encrypt(), r.codewords[message] ^ errors);
        }
    }
}
