/** All that can be asked of an object, as a text: two objects are alike if their texts are. */
final class Look {
    private final DigOrder x;
    private final StringBuilder said = new StringBuilder();

    private Look(DigOrder x) {
        this.x = x;
    }

    /** Asks, and changes nothing. */
    static String at(DigOrder x) {
        Look look = new Look(x);
        look.all();
        return look.said.toString();
    }

    /** Uses the object up, so that what can't be asked shows, too: the text, what is seen, events, the image. */
    static String through(DigOrder x) {
        Look look = new Look(x);
        look.all();
        look.takeApart();
        look.say("read", x.read());
        look.all();
        look.say("undo", x.undo());
        look.all();
        look.takeApart();
        return look.said.toString();
    }

    /** All but the paper. */
    static String besidePaper(DigOrder x) {
        Look look = new Look(x);
        look.units();
        look.phases();
        look.deed();
        look.tapes();
        return look.said.toString();
    }

    private void say(String what, long number) {
        said.append(what).append(' ').append(number).append('\n');
    }

    private void all() {
        units();
        phases();
        deed();
        tapes();
        say("bytes of the paper", x.count(3));
        said.append(Due.paperOf(x)).append('\n');
    }

    private void units() {
        for (int what = 0; what < 7; what++) {
            say("told", x.told(what));
        }
        for (int u = 0; u < 12; u++) {
            for (int what = 0; what < 6; what++) {
                say("of " + u + " " + what, x.of(u, what));
                say("below " + u + " " + what, x.below(u, what));
            }
            say("level " + u, x.level(u));
            say("earliest " + u, x.bounds(u, 0));
            say("latest " + u, x.bounds(u, 1));
            say("middle " + u, x.middle(u));
            say("rate " + u, x.rate(u));
        }
        for (int i = -1; i < 13; i++) {
            say("cycle " + i, x.cycle(i));
            say("proof " + i, x.proof(i));
        }
        for (int k = 0; k <= 40; k++) {
            say("idle " + k, x.idle(k));
        }
    }

    private void phases() {
        for (int p = 0; p < 6; p++) {
            say("rank " + p, x.rank(p));
            say("age " + p, x.age(p, 0));
            say("round " + p, x.age(p, 1));
            for (int q = 0; q < 6; q++) {
                say("over " + p + " " + q, x.over(p, q));
            }
        }
    }

    private void deed() {
        say("orders", x.orders());
        for (int i = 0; i < 12; i++) {
            say("dug " + i, x.dug(i));
            say("order " + i, x.order(0, i));
            say("last order " + i, x.order(x.orders() - 1, i));
        }
        for (int tray = 0; tray < 3; tray++) {
            for (int place = 0; place < 4; place++) {
                say("held " + tray + " " + place, x.held(tray, place, 0));
                say("held as " + tray + " " + place, x.held(tray, place, 1));
            }
        }
        for (int what = 0; what < 3; what++) {
            say("count " + what, x.count(what));
            say("fits " + what, x.fits(what));
            say("after " + what, x.after(what));
        }
    }

    private void tapes() {
        for (int tape = 0; tape < 6; tape++) {
            say("judge " + tape, x.judge(tape, 0));
            for (int i = 0; i <= 60; i++) {
                say("peek " + tape + " " + i, x.peek(tape, i));
            }
            // Of unlike sorts is CAST, so these tell the sort.
            for (int other = 0; other < 6; other++) {
                say("shift " + tape + " " + other, x.shift(tape, 0, other, 0, 0));
            }
        }
    }

    /** Each tie is left out for a while: by what fits and what comes after the rows of seen and events show. */
    private void takeApart() {
        for (int a = 0; a < 12; a++) {
            for (int b = 0; b < 12; b++) {
                if (x.untie(a, b) >= 0) {
                    say("without " + a + " " + b, x.told(1));
                    say("fits", x.fits(0));
                    say("the first", x.fits(1));
                    say("after", x.after(0));
                    say("crossing", x.after(1));
                    x.tie(a, b);
                }
            }
        }
    }
}
