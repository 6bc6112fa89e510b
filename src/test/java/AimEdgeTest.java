/** Promises 28 to 33 at their edges: no aim, eight aims, the heaviest, no image, an empty one, a full one, each count. */
public final class AimEdgeTest {
    private static final Due DUE = new Due("AimEdgeTest");
    private static final Twins TWINS = new Twins(DUE);
    private static final Past[] LISTED = {Past.NEW, Past.RICH, Past.FULL};
    private static final Past[] WITH_IMAGE = {Past.RICH, Past.SPENT, Past.FULL};

    public static void main(String[] args) {
        aimNoCase();
        aimTooLight();
        aimTooHeavy();
        aimEight();
        aimOrderOfRefusals();
        aimOneCaseTwice();
        servesNoReading();
        servesNoAim();
        servesMost();
        bestOfNoAim();
        bestOfSeveral();
        bestIsTheLast();
        imageOfNothing();
        imageOfAllThatFits();
        imageIsCopied();
        imageOfTheLatest();
        onWithoutImage();
        onLeavesTapeAndRefusals();
        onTwice();
        countOther();
        countsAtTheirEdges();
        countLetters();
        countEachRefusal();
        countManyRefusals();
        DUE.finish();
    }

    // Promise 28: "An AIM more: how many. -1; -4; -6 (8, too)." "a CASE and a WEIGHT (-99 .. 99)", "8 at most".

    private static void aimNoCase() {
        for (int bad : new int[] {-1, 32, 33, Integer.MIN_VALUE, Integer.MAX_VALUE}) {
            TWINS.refused("aim(" + bad + ", 0)", x -> x.aim(bad, 0), -1, Past.values());
        }
        DUE.is("aim(0, 0)", new MayBeRead().aim(0, 0), 1);
        DUE.is("aim(31, 0)", new MayBeRead().aim(31, 0), 1);
    }

    private static void aimTooLight() {
        for (int bad : new int[] {-100, -101, Integer.MIN_VALUE}) {
            TWINS.refused("aim(1, " + bad + ")", x -> x.aim(1, bad), -4, Past.values());
        }
        MayBeRead x = new MayBeRead();
        DUE.is("aim(1, -99)", x.aim(1, -99), 1);
        DUE.is("serves(0)", x.serves(0), -99);
    }

    private static void aimTooHeavy() {
        for (int bad : new int[] {100, 101, Integer.MAX_VALUE}) {
            TWINS.refused("aim(1, " + bad + ")", x -> x.aim(1, bad), -6, Past.values());
        }
        MayBeRead x = new MayBeRead();
        DUE.is("aim(1, 99)", x.aim(1, 99), 1);
        DUE.is("serves(0)", x.serves(0), 99);
    }

    private static void aimEight() {
        MayBeRead x = new MayBeRead();
        for (int i = 1; i <= 8; i++) {
            DUE.is("aim " + i, x.aim(31, i), i);
            DUE.is("count(2)", x.count(2), i);
        }
        DUE.is("aim 9", x.aim(31, 9), -6);
        DUE.is("count(2)", x.count(2), 8);
        DUE.is("serves(0)", x.serves(0), 36);
        for (int weight : new int[] {-99, 0, 99}) {
            TWINS.refused("aim(0, " + weight + ")", y -> y.aim(0, weight), -6, Past.FULL);
        }
    }

    private static void aimOrderOfRefusals() {
        for (int noCase : new int[] {-1, 32}) {
            TWINS.refused("aim(" + noCase + ", -100)", x -> x.aim(noCase, -100), -1, Past.values());
            TWINS.refused("aim(" + noCase + ", 100)", x -> x.aim(noCase, 100), -1, Past.values());
            TWINS.refused("aim(" + noCase + ", 1)", x -> x.aim(noCase, 1), -1, Past.FULL);
        }
        TWINS.refused("aim(0, -100)", x -> x.aim(0, -100), -4, Past.FULL);
        TWINS.refused("aim(0, 100)", x -> x.aim(0, 100), -6, Past.FULL);
    }

    private static void aimOneCaseTwice() {
        MayBeRead x = new MayBeRead();
        x.aim(1, 40);
        DUE.is("aim(1, 2) beside aim(1, 40)", x.aim(1, 2), 2);
        DUE.is("serves(0)", x.serves(0), 42);
    }

    // Promise 29: "SERVES. Refused as told: -5; -1." "Of serves() REFUSALS are 1000000000 less them (-1 as 1000000001)".

    private static void servesNoReading() {
        for (int bad : new int[] {-1, -2, 20, 200, Integer.MIN_VALUE, Integer.MAX_VALUE}) {
            TWINS.servesRefused("serves(" + bad + ")", x -> x.serves(bad), -1, LISTED);
        }
        TWINS.servesRefused("serves(1)", x -> x.serves(1), -1, Past.NEW);
        TWINS.servesRefused("serves(5)", x -> x.serves(5), -1, Past.RICH);
        DUE.is("serves(-1) as it is told", new MayBeRead().serves(-1), 1000000001);
        DUE.is("serves(0) where spent", Due.of("a|b|c|d|e|a|b|c").serves(0), 1000000005);
    }

    private static void servesNoAim() {
        TWINS.changesNothing("serves(0)", x -> x.serves(0), 0, Past.NEW);
        DUE.is("serves(4) of no aim", Due.of("!a&b|c").serves(4), 0);
        MayBeRead barred = new MayBeRead();
        barred.aim(0, 99);
        DUE.is("serves(0) of an aim that it bars", barred.serves(0), 0);
    }

    private static void servesMost() {
        for (int weight : new int[] {-99, 99}) {
            MayBeRead x = Due.of("a>a");
            for (int i = 0; i < 8; i++) {
                x.aim(i % 2 * 31, weight);
            }
            DUE.is("serves(0) of eight times " + weight, x.serves(0), 8 * weight);
        }
        // A sum that looks like the number of a refusal is none.
        MayBeRead x = new MayBeRead();
        x.aim(1, -1);
        DUE.is("serves(0) of an aim of -1", x.serves(0), -1);
        DUE.is("count(11)", x.count(11), 0);
    }

    // Promise 30: "BEST. -5." "of several the least".

    private static void bestOfNoAim() {
        TWINS.changesNothing("best()", MayBeRead::best, 0, Past.NEW);
        DUE.is("best() of no aim", Due.of("!a&b|c").best(), 0);
        DUE.is("best() of no aim and 200 readings", Due.of("!!!!a&!!a&!!a&a").best(), 0);
    }

    private static void bestOfSeveral() {
        MayBeRead x = Due.of("a|b|c|d|e");
        x.aim(31, 99);
        DUE.is("best() where all serve alike", x.best(), 0);
        x.aim(31, -99);
        x.aim(31, -99);
        DUE.is("best() where all serve below 0", x.best(), 0);
        // 4 is let by the readings 0, 2, 3, 4: all but 1.
        MayBeRead five = Due.of("!a&b|c");
        five.aim(4, 1);
        DUE.is("best() of 0, 2, 3, 4", five.best(), 0);
        five.aim(4, -2);
        DUE.is("best() of 1 alone", five.best(), 1);
    }

    private static void bestIsTheLast() {
        MayBeRead x = Due.of("a-b-c");
        x.aim(5, -1);
        DUE.is("best() is the last, with 0 above -1", x.best(), 1);
        DUE.is("serves(0)", x.serves(0), -1);
        DUE.is("serves(1)", x.serves(1), 0);
        TWINS.changesNothing("best()", MayBeRead::best, 0, Past.RICH);
    }

    // Promises 31, 32: "THE IMAGE is taken: how many WORDS." "ON from it: how many WORDS. -3 there is none."

    private static void imageOfNothing() {
        MayBeRead x = new MayBeRead();
        DUE.is("image() of a new object", x.image(), 1);
        Due.read(x, "a&b");
        x.choose(0);
        x.aim(1, 1);
        DUE.is("on()", x.on(), 1);
        DUE.is("wordAt(0)", x.wordAt(0), 'a');
        DUE.is("wordAt(1)", x.wordAt(1), -9);
        DUE.is("count(1)", x.count(1), 0);
        DUE.is("count(2)", x.count(2), 0);
        DUE.is("choose(0)", x.choose(0), 1);
    }

    private static void imageOfAllThatFits() {
        MayBeRead x = new MayBeRead();
        MayBeRead other = new MayBeRead();
        Past.FULL.of(x);
        Past.FULL.of(other);
        DUE.is("image() of all that fits", x.image(), 21);
        x.unchoose();
        x.choose(1);
        Due.read(x, "");
        DUE.is("on()", x.on(), 21);
        DUE.is("count(1)", x.count(1), 6);
        DUE.is("count(2)", x.count(2), 8);
        other.read();
        other.on();
        TWINS.alike("on() to all that fits", x, other);
    }

    /** What comes after the image was taken, or after going on from it, is not in it. */
    private static void imageIsCopied() {
        MayBeRead x = Due.of("a-b-c");
        x.choose(2);
        x.aim(5, 7);
        x.image();
        for (int time = 0; time < 3; time++) {
            x.choose(0);
            x.aim(5, 50);
            x.bracket(0, 2);
            DUE.is("on()", x.on(), 5);
            DUE.that("the sentence", Due.sentence(x).equals("a-b-c"));
            DUE.is("count(1)", x.count(1), 1);
            DUE.is("count(2)", x.count(2), 1);
            DUE.is("serves(0)", x.serves(0), 7);
            DUE.is("leftOver(0)", x.leftOver(0), 1);
        }
    }

    private static void imageOfTheLatest() {
        MayBeRead x = new MayBeRead();
        Past.FULL.of(x);
        x.unchoose();
        x.read();
        DUE.is("a later image", x.image(), 21);
        x.choose(3);
        Due.read(x, "e");
        DUE.is("on()", x.on(), 21);
        DUE.is("wordAt(0) of the later", x.wordAt(0), '!');
        DUE.is("count(1) of the later", x.count(1), 0);
        DUE.is("count(2) of the later", x.count(2), 8);
    }

    private static void onWithoutImage() {
        TWINS.refused("on()", MayBeRead::on, -3, Past.NEW);
        MayBeRead x = Due.of("a&b");
        DUE.is("on() without image", x.on(), -3);
        DUE.is("on() without image again", x.on(), -3);
        x.image();
        DUE.is("on() with it", x.on(), 3);
        DUE.is("count(13)", x.count(13), 2);
    }

    private static void onLeavesTapeAndRefusals() {
        for (Past past : WITH_IMAGE) {
            MayBeRead x = new MayBeRead();
            MayBeRead other = new MayBeRead();
            past.of(x);
            past.of(other);
            x.on();
            for (int what = 11; what <= 16; what++) {
                DUE.is("on() leaves count(" + what + ") after " + past, x.count(what), other.count(what));
            }
            DUE.is("on() leaves the tape after " + past, x.count(3), other.count(3));
            DUE.is("read() of the tape after " + past, x.read(), other.read());
            DUE.that("its words after " + past, Due.sentence(x).equals(Due.sentence(other)));
        }
    }

    private static void onTwice() {
        MayBeRead x = new MayBeRead();
        Past.RICH.of(x);
        DUE.is("on()", x.on(), 5);
        DUE.is("on() twice", x.on(), 5);
        DUE.is("choose(5)", x.choose(5), -3);
        DUE.is("serves(0)", x.serves(0), 0);
        MayBeRead spent = new MayBeRead();
        Past.SPENT.of(spent);
        DUE.is("on() to where it is spent", spent.on(), 19);
        DUE.is("unlike()", spent.unlike(), -5);
    }

    // Promise 33: "0 WORDS, 1 RULES CHOSEN, 2 AIMS, 3 bytes on THE TAPE, 4 letters, 11 .. 16 REFUSALS -1 .. -6. -9 for
    // another what."

    private static void countOther() {
        for (int what : new int[] {-1, 5, 6, 7, 8, 9, 10, 17, 18, Integer.MIN_VALUE, Integer.MAX_VALUE}) {
            TWINS.changesNothing("count(" + what + ")", x -> x.count(what), -9, Past.values());
        }
    }

    private static void countsAtTheirEdges() {
        int[] least = {1, 0, 0, 0, 1};
        int[] ofFull = {21, 6, 8, 21, 7};
        for (int what = 0; what <= 4; what++) {
            int asked = what;
            TWINS.changesNothing("count(" + what + ")", x -> x.count(asked), least[what], Past.NEW);
            TWINS.changesNothing("count(" + what + ")", x -> x.count(asked), ofFull[what], Past.FULL);
        }
    }

    private static void countLetters() {
        String[] texts = {"e", "((((e))))", "!!!!!!!!!!!!!!!!!!!!a", "a&a&a&a&a&a&a&a&a&a&a", "a&b|c>d-e"};
        int[] letters = {1, 1, 1, 11, 5};
        for (int i = 0; i < texts.length; i++) {
            DUE.is("count(4) of " + texts[i], Due.of(texts[i]).count(4), letters[i]);
        }
    }

    /** Each REFUSAL has a count of its own, of all calls that answer it. */
    private static void countEachRefusal() {
        MayBeRead x = new MayBeRead();
        x.choose(0);
        for (int round = 1; round <= 3; round++) {
            x.nodes(1);
            x.node(0, 0, 3);
            x.choose(0);
            x.feed(0, 0);
            x.aim(0, 100);
            for (int what = 11; what <= 16; what++) {
                DUE.is("count(" + what + ") of round " + round, x.count(what), what == 15 ? 0 : round);
            }
        }
        x.serves(1);
        x.leftOver(-2);
        x.on();
        x.aim(0, -100);
        x.feed(9, 0);
        for (int what = 11; what <= 16; what++) {
            DUE.is("count(" + what + ")", x.count(what), what == 11 ? 5 : what == 12 ? 3 : what == 15 ? 0 : 4);
        }
        Due.read(x, "a|b|c|d|e|a|b|c");
        x.unlike();
        x.serves(0);
        DUE.is("count(15)", x.count(15), 2);
        x.count(17);
        x.wordAt(-1);
        x.read();
        DUE.is("count(11) is of refusals alone", x.count(11), 5);
    }

    private static void countManyRefusals() {
        MayBeRead x = new MayBeRead();
        for (int i = 0; i < 511; i++) {
            x.choose(6);
        }
        DUE.is("count(11), the 512th call", x.count(11), 511);
    }
}
