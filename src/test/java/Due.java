/** Counts the answers that are as due and prints those that are not. */
final class Due {
    private final String name;
    private int passed;
    private int failed;

    Due(String name) {
        this.name = name;
    }

    void is(String call, int got, int want) {
        if (got == want) {
            passed++;
        } else {
            failed++;
            System.out.println(name + ": " + call + " answered " + got + ", due is " + want);
        }
    }

    void holds(String what, boolean so) {
        is(what, so ? 1 : 0, 1);
    }

    /** The last line of a test: exit code 1 if an answer was not as due. */
    void close() {
        System.out.println(name + ": " + passed + " as due, " + failed + " not");
        if (failed > 0 || passed == 0) {
            System.exit(1);
        }
    }

    static void feed(FootLights x, String text) {
        for (int i = 0; i < text.length(); i++) {
            x.feed(text.charAt(i));
        }
    }

    /** A new object with the town that a text tells. */
    static FootLights townOf(String text) {
        FootLights x = new FootLights();
        feed(x, text);
        int places = x.town();
        if (places < 4) {
            throw new IllegalStateException(text + " is no town: " + places);
        }
        return x;
    }
}
