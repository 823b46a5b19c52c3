/** Promises 26 to 29: feed, read, draw, paper. */
public final class WordsTest {
    private static final Due due = new Due("WordsTest");

    public static void main(String[] args) {
        feed();
        readDoes();
        readRefuses();
        readFull();
        readFaults();
        readEight();
        readBehindLonger();
        drawTies();
        drawLevels();
        paper();
        due.end();
    }

    private static void feed() {
        DigOrder x = new DigOrder();
        due.is("feed(-1)", x.feed(-1), DigOrder.BAD);
        due.is("feed(128)", x.feed(128), DigOrder.BAD);
        for (int i = 1; i <= 100; i++) {
            due.is("feed", x.feed(i == 1 ? 0 : 127), i);
        }
        due.is("one too many", x.feed('a'), DigOrder.FULL);
        due.is("bad ahead of full", x.feed(128), DigOrder.BAD);
        due.is("bytes", x.count(2), 100);
        due.is("read", x.read(), -100);
        due.is("it is empty then", x.count(2), 0);
        due.is("feed once more", x.feed('a'), 1);
    }

    private static void readDoes() {
        DigOrder x = Due.withUnits(5);
        due.is("over", Due.say(x, "a over b"), 1);
        due.is("a above b", x.below(0, 0), 2);
        due.is("under", Due.say(x, "a under c"), 1);
        due.is("c above a", x.below(2, 0), 1);
        due.is("cuts", Due.say(x, "d cuts e"), 1);
        due.is("d a cut", x.of(3, 0), 1);
        due.is("d above e", x.below(3, 0), 16);
        due.is("fills", Due.say(x, "e fills a"), 1);
        due.is("e a fill", x.of(4, 0), 2);
        x.set(1, 4, 3);
        due.is("joins", Due.say(x, "a joins b;b joins b"), 2);
        due.is("phase of a", x.of(0, 4), 3);
        due.is("phase of b", x.of(1, 4), 3);
        due.is("joins none", Due.say(x, "a joins c"), 1);
        due.is("phase of a gone", x.of(0, 4), -5);
        due.is("one behind the other", Due.say(x, "c joins b;d joins c"), 2);
        due.is("phase of d", x.of(3, 4), 3);
        due.is("ties", x.told(1), 4);
    }

    private static void readRefuses() {
        DigOrder x = Due.withUnits(3);
        due.is("no such unit", Due.say(x, "a over d;d over a;d joins a;a joins d;l joins l"), 0);
        due.is("itself", Due.say(x, "a over a;a cuts a;b fills b"), 0);
        due.is("kinds stay", x.of(0, 0) + x.of(1, 0), 0);
        due.is("twice", Due.say(x, "a over b;a over b;b under a"), 1);
        due.is("refused cuts", Due.say(x, "a cuts b"), 0);
        due.is("its kind stays", x.of(0, 0), 0);
        due.is("some done", Due.say(x, "a fills b;b cuts a;a fills c;k over a"), 2);
        due.is("kind of a", x.of(0, 0), 2);
        due.is("kind of b", x.of(1, 0), 1);
        due.is("ties", x.told(1), 3);
    }

    private static void readFull() {
        DigOrder x = Due.withUnits(12);
        int ties = 0;
        for (int a = 0; a < 12 && ties < 39; a++) {
            for (int b = a + 1; b < 12 && ties < 39; b++) {
                x.tie(a, b);
                ties++;
            }
        }
        due.is("one tie more", Due.say(x, "l cuts a;l fills b;l joins a"), 2);
        due.is("kind of l", x.of(11, 0), 1);
        due.is("ties", x.told(1), 40);
    }

    private static void readFaults() {
        String[] texts = {"", "m", "A", " a over b", "a", "a ", "ab", "a  over b", "a over", "a over ", "a over  b",
            "a over m", "a over b;", "a over b ", "a over bc", "a over b;;", "a over b; a over c", "a over b;a",
            "a ov b", "a ov", "a overs b", "a overb", "a Over b", "a oveR b", "a over\tb", "a 1", "a ;", "a over;b",
            "a x1", "a over b;a digs c", "a digs b;m", "a over b;a digs", "a over b.", "a joins b;b lies c;",
            "a over \0", "a\0", "a cut b", "a fillss b", "\u007f"};
        int[] want = {-100, -100, -100, -100, -101, -102, -101, -102, -106, -107, -107,
            -107, -109, -108, -108, -109, -109, -110,
            -302, -302, -302, -302, -102, -302, -106, -102, -102, -106,
            -302, -311, -302, -311, -108, -312,
            -107, -101, -302, -302, -100};
        for (int i = 0; i < texts.length; i++) {
            DigOrder x = Due.withUnits(3);
            due.is("read of '" + texts[i] + "'", Due.say(x, texts[i]), want[i]);
            due.is("nothing is done", x.told(1), 0);
            due.is("the text is empty", x.count(2), 0);
        }
    }

    private static void readEight() {
        DigOrder x = Due.withUnits(12);
        String eight = "a over b;a over c;a over d;a over e;a over f;a over g;a over h;a over i";
        due.is("eight", Due.say(x, eight), 8);
        due.is("ties", x.told(1), 8);
        due.is("nine", Due.say(x, eight + ";a over j"), -171);
        due.is("nine by a ; alone", Due.say(x, eight + ";"), -171);
        due.is("eight and a blank", Due.say(x, eight + " "), -171);
        due.is("a fault ahead of the ninth", Due.say(x, "b ober a;" + eight), -302);
        due.is("ties", x.told(1), 8);
    }

    /** Nothing of an earlier text may be left to be read. */
    private static void readBehindLonger() {
        DigOrder x = Due.withUnits(3);
        String[] texts = {"a", "a ", "a ov", "a over", "a over ", "a over b;", ""};
        int[] want = {-101, -102, -302, -106, -107, -109, -100};
        for (int i = 0; i < texts.length; i++) {
            Due.say(x, "a over b;a over c;b over c");
            due.is("read of '" + texts[i] + "' behind a longer text", Due.say(x, texts[i]), want[i]);
        }
        String all = "a " + "over".repeat(24) + "ov";
        due.is("bytes", all.length(), 100);
        due.is("a verb up to the last byte", Due.say(x, all), -302);
        due.is("ties", x.told(1), 3);
    }

    private static void drawTies() {
        DigOrder x = Due.withUnits(4);
        due.is("nothing", x.draw(0), 0);
        x.tie(2, 3);
        x.tie(0, 3);
        x.tie(0, 2);
        x.tie(0, 1);
        due.is("bytes", x.draw(0), 11);
        due.is("ties", Due.paperOf(x), "a>b;a>c;c>d");
        x.tie(3, 2);
        due.is("bytes with a cycle", x.draw(0), 19);
        due.is("all ties", Due.paperOf(x), "a>b;a>c;a>d;c>d;d>c");
        due.is("draw(2)", x.draw(2), DigOrder.NONE);
        due.is("draw(-1)", x.draw(-1), DigOrder.NONE);
        due.is("it stays", Due.paperOf(x), "a>b;a>c;a>d;c>d;d>c");
        DigOrder y = Due.withUnits(12);
        int ties = 0;
        for (int a = 0; a < 12; a++) {
            for (int b = 0; b < 12 && ties < 40; b++) {
                ties += y.tie(a, b) > 0 ? 1 : 0;
            }
        }
        due.is("the longest", y.draw(0), 159);
        due.is("its last byte", y.paper(158), 'h');
        due.is("behind it", y.paper(159), -5);
    }

    private static void drawLevels() {
        DigOrder x = Due.withUnits(5);
        due.is("one level", x.draw(1), 5);
        due.is("all", Due.paperOf(x), "abcde");
        x.tie(4, 0);
        x.tie(0, 2);
        x.tie(1, 2);
        due.is("levels", x.draw(1), 7);
        due.is("as text", Due.paperOf(x), "e|ab|cd");
        x.tie(2, 4);
        due.is("a cycle", x.draw(1), 7);
        due.is("as shown", Due.paperOf(x), "a>c>e>a");
        DigOrder y = Due.withUnits(12);
        for (int u = 0; u < 12; u++) {
            y.tie(u, (u + 1) % 12);
        }
        due.is("a cycle of all", y.draw(1), 25);
        due.is("as text", Due.paperOf(y), "a>b>c>d>e>f>g>h>i>j>k>l>a");
        y.untie(11, 0);
        due.is("twelve levels", y.draw(1), 23);
        due.is("as text", Due.paperOf(y), "a|b|c|d|e|f|g|h|i|j|k|l");
    }

    private static void paper() {
        DigOrder x = Due.withUnits(2);
        due.is("nothing at first", x.paper(0), -5);
        x.draw(1);
        due.is("paper(0)", x.paper(0), 'a');
        due.is("paper(1)", x.paper(1), 'b');
        due.is("paper(2)", x.paper(2), -5);
        due.is("paper(far)", x.paper(Integer.MAX_VALUE), -5);
        due.is("paper(-1)", x.paper(-1), DigOrder.NONE);
        x.tie(1, 0);
        x.image();
        x.undo();
        due.is("it stays", Due.paperOf(x), "ab");
        due.is("bytes", x.count(3), 2);
        x.draw(0);
        due.is("another text", Due.paperOf(x), "b>a");
        x.untie(1, 0);
        due.is("empty", x.draw(0), 0);
        due.is("bytes", x.count(3), 0);
    }
}
