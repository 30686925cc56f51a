/** What all tests share: telling texts to a BeanTrug and comparing its answers. */
final class Trial {
    private final String name;
    private int passed = 0;
    private int failed = 0;

    Trial(String name) {
        this.name = name;
    }

    void due(String what, long got, long want) {
        if (got == want) {
            passed++;
        } else {
            failed++;
            System.out.println(name + ": " + what + " answered " + got + ", due is " + want);
        }
    }

    void holds(String what, boolean is) {
        due(what, is ? 1 : 0, 1);
    }

    /** Ends the test's program: exit code 1, if an answer was not as due. */
    void close() {
        System.out.println(name + ": " + passed + " answers as due, " + failed + " not");
        if (failed != 0 || passed == 0) {
            System.exit(1);
        }
    }

    static void onTape(BeanTrug trug, byte[] text) {
        trug.end(0);
        int whole = (text.length + 19) / 20 * 20;
        byte[] padded = java.util.Arrays.copyOf(text, whole);
        for (int i = 0; i < whole; i += 20) {
            trug.feed(four(padded, i), four(padded, i + 4), four(padded, i + 8), four(padded, i + 12), four(padded, i + 16));
        }
        trug.end(text.length);
    }

    static void onTape(BeanTrug trug, String text) {
        onTape(trug, text.getBytes(java.nio.charset.StandardCharsets.ISO_8859_1));
    }

    static int tellTrug(BeanTrug trug, String text) {
        onTape(trug, text);
        return trug.trug();
    }

    static int tellRule(BeanTrug trug, String text) {
        onTape(trug, text);
        return trug.rule();
    }

    static BeanTrug with(String text) {
        BeanTrug trug = new BeanTrug();
        if (tellTrug(trug, text) < 0) {
            throw new IllegalStateException("the test's own trug has a fault: " + text);
        }
        return trug;
    }

    /** The answer that is due for a fault of a kind at a place. */
    static int fault(int place, int kind) {
        return -2 - (1 + 8 * place + kind);
    }

    private static int four(byte[] bytes, int at) {
        return (bytes[at] & 255) << 24 | (bytes[at + 1] & 255) << 16 | (bytes[at + 2] & 255) << 8 | (bytes[at + 3] & 255);
    }
}
