/** Counts the answers that are not as due, and helps with what takes several calls. */
final class Due {
    private final String name;
    private int asked = 0;
    private int wrong = 0;

    Due(String name) {
        this.name = name;
    }

    void is(String call, long got, long want) {
        asked++;
        if (got != want) {
            wrong++;
            System.out.println(name + ": " + call + " answered " + got + ", due is " + want);
        }
    }

    void is(String call, String got, String want) {
        asked++;
        if (!got.equals(want)) {
            wrong++;
            System.out.println(name + ": " + call + " answered '" + got + "', due is '" + want + "'");
        }
    }

    void end() {
        System.out.println(name + ": " + asked + " answers, " + wrong + " not as due");
        if (wrong != 0 || asked == 0) {
            System.exit(1);
        }
    }

    static DigOrder withUnits(int n) {
        DigOrder x = new DigOrder();
        for (int u = 0; u < n; u++) {
            x.unit(0);
        }
        return x;
    }

    static void feedAll(DigOrder x, String text) {
        for (int i = 0; i < text.length(); i++) {
            x.feed(text.charAt(i));
        }
    }

    static int say(DigOrder x, String text) {
        feedAll(x, text);
        return x.read();
    }

    static String paperOf(DigOrder x) {
        StringBuilder text = new StringBuilder();
        for (int i = 0; x.paper(i) >= 0; i++) {
            text.append((char) x.paper(i));
        }
        return text.toString();
    }
}
