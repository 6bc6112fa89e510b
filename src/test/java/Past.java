/** What an object was asked before a call, from nothing at all to all that it has room for. */
enum Past {
    /** Nothing was asked yet. */
    NEW {
        @Override
        void of(MayBeRead x) {
        }
    },
    /** Rules, aims, an image, bytes on the tape, refusals of several numbers; 5 readings. */
    RICH {
        @Override
        void of(MayBeRead x) {
            x.choose(5);
            x.aim(3, 50);
            Due.read(x, "a-b-c");
            x.image();
            x.unchoose();
            Due.read(x, "!a&b|c");
            choose(x, 3, 0, 1);
            x.aim(4, 9);
            x.aim(7, -5);
            Due.feed(x, "e&!d");
            x.feed(0, 'a');
            x.feed(9, 'a');
            x.choose(6);
            x.choose(3);
            x.node(0, 0, 3);
        }
    },
    /** As before, but with 4862 readings. */
    SPENT {
        @Override
        void of(MayBeRead x) {
            Due.read(x, "a|b|c|d|e|a|b|c|d|e");
            choose(x, 2, 4);
            x.aim(31, -99);
            x.image();
            Due.feed(x, "!b|a");
            x.unlike();
        }
    },
    /** 21 words, six rules, eight aims, an image of all this, and 21 bytes on the tape; 20 readings. */
    FULL {
        @Override
        void of(MayBeRead x) {
            Due.read(x, "(!a&b|c)&(!d|e)&(a-b)");
            choose(x, 2, 5, 1, 0, 4, 3);
            for (int i = 0; i < 8; i++) {
                x.aim(4 * i + 1, 99 - 28 * i);
            }
            x.image();
            Due.feed(x, "!!!!!!!!!!!!!!!!!!!!e");
        }
    };

    abstract void of(MayBeRead x);

    private static void choose(MayBeRead x, int... rules) {
        for (int rule : rules) {
            x.choose(rule);
        }
    }
}
