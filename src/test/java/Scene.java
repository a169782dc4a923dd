/** Theatres at which refused calls are asked: every making of one is like the other. */
enum Scene {
    /** As made: four acts, nobody comes. */
    NEW {
        @Override
        ActsPaid make() {
            return new ActsPaid();
        }
    },
    /** One act, the first and the last guest, law 1, a sign that is an order and no guest. */
    SMALL {
        @Override
        ActsPaid make() {
            ActsPaid x = Kit.with(1, "z", "", "", "", "", "", "", "h");
            x.set(2, 1);
            x.other(0, 3);
            x.seen(7, 1, 4);
            x.say('0');
            return x;
        }
    },
    /** Six acts, all guests but F, all that can be told; both images hold something else. */
    GRAND {
        @Override
        ActsPaid make() {
            ActsPaid x = Kit.with(2, "", "zz", "gk");
            x.friends(1, 2);
            x.seen(2, 1, 5);
            x.must(1, 0);
            x.other(1, 4);
            x.set(1, 2);
            x.image(0);
            x.acts(6);
            String[] guests = {"kjihgf", "zaAzaA", "mmmaaa", "aaammm", "kkkkkk", "zzzzzz", "ggJggz", "nAnAnA"};
            for (int guest = 0; guest < guests.length; guest++) {
                Kit.come(x, guest, guests[guest]);
            }
            x.friends(0, 5);
            x.must(2, 4);
            x.other(3, 12);
            x.seen(1, 1, 20);
            x.image(1);
            x.leave(5);
            Kit.play(x, "310254");
            x.set(0, 4);
            x.set(1, 1);
            x.set(3, 6);
            x.friends(4, 1);
            x.friends(7, 2);
            x.must(5, 1);
            x.must(4, 5);
            x.other(0, 9);
            x.other(5, 25);
            x.seen(0, 2, 8);
            x.seen(6, 0, 6);
            Kit.write(x, "abc");
            return x;
        }
    },
    /** The same; the pad is full, and so are the sights. */
    FILLED {
        @Override
        ActsPaid make() {
            ActsPaid x = GRAND.make();
            for (int sign = x.told(0); sign < 48; sign++) {
                x.say('z');
            }
            for (int sight = x.told(7); sight < 6; sight++) {
                x.seen(2, 6, sight);
            }
            return x;
        }
    };

    abstract ActsPaid make();
}
