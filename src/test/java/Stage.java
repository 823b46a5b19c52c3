/** Objects in telling states, each made anew by the same calls. */
enum Stage {
    /** No units. */
    NEW {
        @Override
        void lead(DigOrder x) {
        }
    },

    /** Five units, something of everything, and an image that is otherwise. */
    USED {
        @Override
        void lead(DigOrder x) {
            makeUsed(x);
        }
    },

    /** As USED, but with the cycle 0, 1, 4. */
    RING {
        @Override
        void lead(DigOrder x) {
            makeUsed(x);
            x.tie(4, 0);
        }
    },

    /** Twelve units, all dug, forty ties, and all else as full as can be. */
    FULL {
        @Override
        void lead(DigOrder x) {
            makeFull(x);
        }
    };

    abstract void lead(DigOrder x);

    DigOrder make() {
        DigOrder x = new DigOrder();
        lead(x);
        return x;
    }

    private static void makeUsed(DigOrder x) {
        for (int kind = 0; kind < 5; kind++) {
            x.unit(kind);
        }
        x.set(0, 1, 7);
        x.set(1, 2, 100);
        x.set(3, 3, 1500);
        x.set(0, 4, 1);
        x.set(2, 4, 3);
        x.tie(0, 1);
        x.tie(2, 1);
        x.tie(1, 4);
        x.tie(0, 4);
        x.dig(0);
        x.tray(0, 0, 0);
        x.tray(1, 1, 1);
        x.tray(2, 3, 3);
        x.see(0, 1, true);
        x.see(4, 0, false);
        x.event(0, 3);
        x.event(2, 1);
        x.draw(0);
        x.image();
        x.set(4, 1, 9);
        x.dig(3);
        x.tray(0, 3, 2);
        x.see(2, 4, true);
        x.event(1, 2);
        Due.feedAll(x, "d over e;e joins c");
        x.tape(0, 0, 3);
        x.tape(1, 1, 5);
        x.tape(2, 2, 0);
        x.tape(3, 3, 4);
        x.tape(4, 4, 2);
        x.item(0, 2, 7);
        x.item(1, 0, 100);
        x.item(3, 3, Long.MIN_VALUE);
        x.item(4, 1, 1);
    }

    private static void makeFull(DigOrder x) {
        for (int u = 0; u < 12; u++) {
            x.unit(u % 6);
            x.set(u, 4, u % 6);
        }
        int ties = 0;
        for (int a = 0; a < 12; a++) {
            for (int b = a + 1; b < 12 && ties < 40; b++) {
                ties = x.tie(a, b);
            }
        }
        for (int u = 0; u < 12; u++) {
            x.dig(u);
            x.tray(0, u % 4, u);
            x.tray(1, u % 4, 1);
            x.tray(2, u % 4, 3);
        }
        for (int row = 0; row < 8; row++) {
            x.see(row, row + 1, row != 4);
            x.event(row % 4, row);
        }
        Due.feedAll(x, "a over b;".repeat(11) + "a");
        for (int tape = 0; tape < 6; tape++) {
            x.tape(tape, tape % 5, 60);
            x.item(tape, 59, 1);
        }
        x.draw(0);
        x.image();
    }
}
