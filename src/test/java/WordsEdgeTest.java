/** "Terms", 2: words and their faults; a method for each boundary it names. */
public final class WordsEdgeTest {
    private static final Due due = new Due("WordsEdgeTest");

    public static void main(String[] args) {
        signs();
        hundredBytes();
        textTooEarly();
        letters();
        verbs();
        verbLetters();
        verbsNearly();
        emptyVerb();
        blanks();
        nothingElse();
        eightSentences();
        lastPlaces();
        firstFromLeft();
        faultUndoesAll();
        emptyBehindFault();
        noSuchUnit();
        tieThereAlready();
        refusedKindStays();
        oneBehindTheOther();
        joins();
        due.end();
    }

    private static void readIs(String text, int want) {
        DigOrder x = Due.withUnits(12);
        due.is("'" + text + "'", Due.say(x, text), want);
        due.is("'" + text + "' is gone", x.count(2), 0);
    }

    /** "A sign (0 .. 127)". */
    private static void signs() {
        DigOrder x = new DigOrder();
        due.is("feed(0)", x.feed(0), 1);
        due.is("feed(127)", x.feed(127), 2);
        due.is("feed(-1)", x.feed(-1), -2);
        due.is("feed(128)", x.feed(128), -2);
        due.is("feed('a' + 256)", x.feed('a' + 256), -2);
        due.is("feed('a' + 65536)", x.feed('a' + 65536), -2);
        due.is("feed('a' - 128)", x.feed('a' - 128), -2);
        due.is("two", x.count(2), 2);
    }

    /** "THE TEXT (bytes, 100 at most)". */
    private static void hundredBytes() {
        DigOrder x = Due.withUnits(2);
        Due.feedAll(x, "a over b;");
        for (int n = 10; n <= 100; n++) {
            due.is("byte " + n, x.feed('a'), n);
        }
        due.is("one too many", x.feed('a'), -4);
        due.is("bad ahead of full", x.feed(-1), -2);
        due.is("a hundred", x.count(2), 100);
        due.is("its fault", x.read(), -110);
        due.is("nothing was done", x.told(1), 0);
        due.is("the first once more", x.feed('a'), 1);
        readIs("a " + "z".repeat(98), -302);
    }

    /** "(its place; the end, if THE TEXT ends too early)": each beginning of a text. */
    private static void textTooEarly() {
        readIs("", -100);
        readIs("a", -101);
        readIs("a ", -102);
        readIs("a over", -106);
        readIs("a over ", -107);
        readIs("a over b", 1);
        readIs("a over b;", -109);
        readIs("a over b;c", -110);
        readIs("a over b;c ", -111);
        readIs("a over b;c under", -116);
        readIs("a over b;c under ", -117);
        readIs("a over b;c under d", 2);
    }

    /** "UNIT (letters a .. l)": m and l + 1 alike begin none, nor do those beside a. */
    private static void letters() {
        for (char c = 0; c < 128; c++) {
            boolean isUnit = c >= 'a' && c <= 'l';
            if (c != 'b') {
                readIs(c + " over b", isUnit ? 1 : -100);
                readIs("b over " + c, isUnit ? 1 : -107);
            }
        }
    }

    /** "over, under, cuts, fills, joins". */
    private static void verbs() {
        DigOrder x = Due.withUnits(3);
        due.is("over", Due.say(x, "a over b"), 1);
        due.is("the first lies above", x.below(0, 0), 2);
        due.is("under", Due.say(x, "a under c"), 1);
        due.is("the other way about", x.below(2, 0), 1);
        due.is("kinds", x.of(0, 0) + x.of(1, 0) + x.of(2, 0), 0);
        due.is("cuts", Due.say(x, "b cuts c"), 1);
        due.is("over, too", x.below(1, 0), 4);
        due.is("the first a cut", x.of(1, 0), 1);
        due.is("the other none", x.of(2, 0), 0);
        due.is("fills", Due.say(x, "c fills b"), 1);
        due.is("over, too", x.below(2, 0), 3);
        due.is("the first a fill", x.of(2, 0), 2);
        due.is("the other still a cut", x.of(1, 0), 1);
        x.set(2, 4, 4);
        due.is("joins", Due.say(x, "a joins c"), 1);
        due.is("its phase", x.of(0, 4), 4);
        due.is("no tie of it", x.told(1), 4);
    }

    /** "a VERB (as many letters a .. z as stand there)". */
    private static void verbLetters() {
        readIs("a a b", -302);
        readIs("a z b", -302);
        readIs("a az b", -302);
        readIs("a ` b", -102);
        readIs("a { b", -102);
        readIs("a over` b", -106);
        readIs("a over{ b", -106);
        readIs("a overa b", -302);
        readIs("a overz b", -302);
        readIs("a aover b", -302);
        readIs("a zover b", -302);
        readIs("a overm", -302);
        readIs("a over0 b", -106);
        readIs("a x0 b", -302);
    }

    /** "a VERB that is none of these: its place": each with a letter less, more, or another one. */
    private static void verbsNearly() {
        for (String verb : new String[] {"over", "under", "cuts", "fills", "joins"}) {
            readIs("a " + verb + " b", 1);
            readIs("a " + verb + verb + " b", -302);
            readIs("a " + verb + "s b", -302);
            readIs("a " + verb.substring(1) + " b", -302);
            readIs("a " + verb.substring(0, verb.length() - 1) + " b", -302);
            readIs("a " + verb.substring(0, 1).toUpperCase() + verb.substring(1) + " b", -102);
            readIs("a " + verb.substring(0, verb.length() - 1), -302);
            for (int i = 0; i < verb.length(); i++) {
                readIs("a " + verb.substring(0, i) + "x" + verb.substring(i + 1) + " b", -302);
                int big = i == 0 ? -102 : -302;
                readIs("a " + verb.substring(0, i) + "X" + verb.substring(i + 1) + " b", big);
            }
        }
    }

    /** "an empty one is of FAULT 1"; "A second blank is where a FAULT 1 is." */
    private static void emptyVerb() {
        readIs("a  over b", -102);
        readIs("a  b", -102);
        readIs("a ;", -102);
        readIs("a 1", -102);
        readIs("a over  b", -107);
        readIs("a over b ", -108);
        readIs("  a over b", -100);
        readIs(" a over b", -100);
        readIs("a over b; b over c", -109);
        readIs("a over b;a  over c", -111);
    }

    /** "a blank" stands for none but a blank. */
    private static void blanks() {
        for (char c = 0; c < 128; c++) {
            boolean isLetter = c >= 'a' && c <= 'z';
            if (c != ' ') {
                readIs("a" + c + "over b", -101);
                readIs("a over" + c + "b", isLetter ? -302 : -106);
            }
        }
    }

    /** "with ; between", "Nothing else stands between." */
    private static void nothingElse() {
        for (char c = 0; c < 128; c++) {
            readIs("a over b" + c, c == ';' ? -109 : -108);
            readIs("a over b" + c + "b over c", c == ';' ? 2 : -108);
        }
        readIs(";a over b", -100);
        readIs("a over b;;b over c", -109);
    }

    private static final String EIGHT = "a over b;a over c;a over d;a over e;a over f;a over g;a over h;a over i";

    /** "SENTENCES, 1 to 8", "(a ninth SENTENCE: the ; ahead of it)". */
    private static void eightSentences() {
        readIs(EIGHT.substring(0, 8), 1);
        readIs(EIGHT.substring(0, 62), 7);
        readIs(EIGHT, 8);
        readIs(EIGHT + ";", -171);
        readIs(EIGHT + ";a over j", -171);
        readIs(EIGHT + ";a digs j", -171);
        readIs(EIGHT + ";;", -171);
        readIs(EIGHT + "j", -171);
        readIs(EIGHT.substring(0, 63) + "a digs i;a over j", -365);
        readIs(EIGHT.substring(0, 63), -163);
    }

    /** The longest words there are: 79 bytes; the last places at which a fault can be. */
    private static void lastPlaces() {
        String seven = "a under b;".repeat(7);
        readIs(seven + "a under b", 1);
        readIs(seven + "a under b;", -179);
        readIs(seven + "a under m", -178);
        readIs(seven + "a under ", -178);
        readIs(seven + "a unders b", -372);
        readIs(seven + "a under b" + "x".repeat(21), -179);
    }

    /** "FAULTS, the first from the left". */
    private static void firstFromLeft() {
        readIs("a digs m", -302);
        readIs("m digs a", -100);
        readIs("a over m;a digs b", -107);
        readIs("a digs b;m over a", -302);
        readIs("a digs", -302);
        readIs("a over b;a digs c;" + EIGHT, -311);
        readIs(EIGHT.substring(0, 71) + ";m", -171);
    }

    /** By a fault nothing is done, of the sentences ahead of it neither. */
    private static void faultUndoesAll() {
        DigOrder x = Due.withUnits(3);
        due.is("fault 1 behind", Due.say(x, "a cuts b;b joins a;b over"), -125);
        due.is("fault 2 behind", Due.say(x, "a cuts b;b joins a;b ower c"), -321);
        due.is("no tie", x.told(1), 0);
        due.is("no cut", x.of(0, 0), 0);
    }

    /** "THE TEXT, which is empty then (by a FAULT, too)". */
    private static void emptyBehindFault() {
        DigOrder x = Due.withUnits(3);
        due.is("fault 1", Due.say(x, "a over b;m"), -109);
        due.is("empty", x.count(2), 0);
        due.is("nothing is there", x.read(), -100);
        due.is("fault 2", Due.say(x, "a o b"), -302);
        due.is("empty", x.count(2), 0);
        due.is("done", Due.say(x, "a over b"), 1);
        due.is("empty", x.count(2), 0);
        due.is("nothing is there", x.read(), -100);
        due.is("one tie", x.told(1), 1);
    }

    /** "(by a UNIT that there isn't"; "A SENTENCE with a letter of no UNIT is not done." */
    private static void noSuchUnit() {
        for (String verb : new String[] {"over", "under", "cuts", "fills", "joins"}) {
            DigOrder x = Due.withUnits(11);
            x.set(0, 4, 2);
            due.is("l " + verb, Due.say(x, "l " + verb + " a;a " + verb + " l;l " + verb + " l"), 0);
            due.is("no tie", x.told(1), 0);
            due.is("kind", x.of(0, 0), 0);
            due.is("phase", x.of(0, 4), 2);
            due.is("k " + verb, Due.say(x, "k " + verb + " a"), 1);
            x.unit(0);
            due.is("l " + verb + " now", Due.say(x, "l " + verb + " a"), 1);
        }
        due.is("no units at all", Due.say(new DigOrder(), "a over b;a joins a"), 0);
    }

    /** "by a TIE that is there already, too"; a unit lies above itself by none. */
    private static void tieThereAlready() {
        DigOrder x = Due.withUnits(3);
        due.is("over twice", Due.say(x, "a over b;a over b"), 1);
        due.is("under, the same", Due.say(x, "b under a"), 0);
        due.is("the other way about", Due.say(x, "a under b"), 1);
        due.is("itself", Due.say(x, "c over c;c under c;c cuts c;c fills c"), 0);
        due.is("ties", x.told(1), 2);
        due.is("kind of c", x.of(2, 0), 0);
    }

    /** "aren't done at all (the KIND stays, too)". */
    private static void refusedKindStays() {
        DigOrder x = Due.withUnits(3);
        x.set(0, 0, 5);
        x.tie(0, 1);
        due.is("refused", Due.say(x, "a cuts b;a fills b;a cuts a"), 0);
        due.is("kind", x.of(0, 0), 5);
        due.is("done", Due.say(x, "a cuts c"), 1);
        due.is("kind", x.of(0, 0), 1);
        due.is("done", Due.say(x, "b fills c"), 1);
        due.is("kind", x.of(1, 0), 2);
    }

    /** "they are done, one behind the other". */
    private static void oneBehindTheOther() {
        DigOrder x = Due.withUnits(4);
        x.set(0, 4, 1);
        due.is("phases go on", Due.say(x, "b joins a;c joins b;a joins d"), 3);
        due.is("of c", x.of(2, 4), 1);
        due.is("of a", x.of(0, 4), -5);
        due.is("kinds", Due.say(x, "a cuts b;a fills c"), 2);
        due.is("the last kind", x.of(0, 0), 2);
        due.is("as they came", x.fits(1), 1);
        due.is("some refused", Due.say(x, "a over b;a over d;l over a;b over d"), 2);
    }

    /** "joins (the first gets the PHASE of the other one, or none; also of itself: done, nothing changes)". */
    private static void joins() {
        DigOrder x = Due.withUnits(2);
        x.set(1, 4, 5);
        due.is("a phase", Due.say(x, "a joins b"), 1);
        due.is("of a", x.of(0, 4), 5);
        due.is("of b", x.of(1, 4), 5);
        due.is("once more", Due.say(x, "a joins b"), 1);
        due.is("of itself", Due.say(x, "a joins a"), 1);
        due.is("of a", x.of(0, 4), 5);
        x.set(1, 4, -1);
        due.is("none", Due.say(x, "a joins b"), 1);
        due.is("of a", x.of(0, 4), -5);
        due.is("of itself, none", Due.say(x, "b joins b"), 1);
        due.is("of b", x.of(1, 4), -5);
        due.is("no phase", x.told(6), 0);
        due.is("no tie", x.told(1), 0);
    }
}
