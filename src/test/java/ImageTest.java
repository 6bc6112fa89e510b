/** Promises 31 to 33: the image, on from it, the counts. */
public final class ImageTest {
    private static final Due DUE = new Due("ImageTest");

    public static void main(String[] args) {
        image();
        imageStandsForItself();
        onRefused();
        count();
        DUE.finish();
    }

    private static void image() {
        MayBeRead x = Due.of("!a&b|c");
        x.choose(3);
        x.choose(0);
        x.aim(4, 9);
        x.aim(7, -5);
        DUE.is("image()", x.image(), 6);
        x.unchoose();
        x.choose(2);
        x.aim(0, 80);
        Due.read(x, "a");
        DUE.is("image() changes nothing", x.count(0), 1);
        x.feed(3, Due.bytes("a&b"));
        x.feed(0, 0);
        DUE.is("on()", x.on(), 6);
        DUE.that("the sentence of the image", Due.sentence(x).equals("!a&b|c"));
        DUE.is("readings()", x.readings(), 5);
        DUE.is("means(4)", x.means(4), 4109694196L);
        DUE.is("count(1)", x.count(1), 2);
        DUE.is("leftOver(-1)", x.leftOver(-1), 1);
        DUE.is("leftOver(0)", x.leftOver(0), 4);
        DUE.is("hangs()", x.hangs(), 1 << 0 | 1 << 3);
        DUE.is("choose(3) is chosen", x.choose(3), -3);
        DUE.is("count(2)", x.count(2), 2);
        DUE.is("serves(0)", x.serves(0), 9);
        DUE.is("the tape is not in it", x.count(3), 3);
        DUE.is("refusals are not in it", x.count(14), 1);
        DUE.is("read() of the tape", x.read(), 3);
    }

    private static void imageStandsForItself() {
        MayBeRead x = Due.of("a&b");
        x.image();
        DUE.is("bracket(0, 2)", x.bracket(0, 2), 5);
        x.choose(1);
        x.aim(3, 3);
        DUE.is("on()", x.on(), 3);
        DUE.is("count(1)", x.count(1), 0);
        DUE.is("count(2)", x.count(2), 0);
        x.choose(1);
        x.aim(3, 3);
        x.bracket(0, 2);
        DUE.is("on() a second time", x.on(), 3);
        DUE.that("the sentence is as then", Due.sentence(x).equals("a&b"));
        DUE.is("count(1) a second time", x.count(1), 0);
        DUE.is("serves(0) a second time", x.serves(0), 0);
        Due.read(x, "a|b|c");
        x.choose(2);
        DUE.is("a later image takes the place", x.image(), 5);
        Due.read(x, "e");
        x.unchoose();
        DUE.is("on() from the later", x.on(), 5);
        DUE.is("count(1) from the later", x.count(1), 1);
        DUE.that("its sentence", Due.sentence(x).equals("a|b|c"));
        MayBeRead spent = Due.of("a|a|a|a|a|a|a|a");
        DUE.is("image() where spent", spent.image(), 15);
        Due.read(spent, "a");
        DUE.is("on() to where it is spent", spent.on(), 15);
        DUE.is("nodes(0) there", spent.nodes(0), -5);
    }

    private static void onRefused() {
        MayBeRead x = Due.of("a&b");
        x.choose(4);
        DUE.is("on() from none", x.on(), -3);
        DUE.is("on() from none again", x.on(), -3);
        DUE.is("count(13)", x.count(13), 2);
        DUE.is("count(0)", x.count(0), 3);
        DUE.is("count(1)", x.count(1), 1);
    }

    private static void count() {
        MayBeRead x = Due.of("!(a&a)|(b-e)");
        x.choose(5);
        x.aim(1, 1);
        x.aim(1, 1);
        x.feed(4, 0);
        DUE.is("count(0)", x.count(0), 12);
        DUE.is("count(1)", x.count(1), 1);
        DUE.is("count(2)", x.count(2), 2);
        DUE.is("count(3)", x.count(3), 4);
        DUE.is("count(4), a letter each time that it stands there", x.count(4), 4);
        for (int what : new int[] {-1, 5, 6, 7, 8, 9, 10, 17, 18, Integer.MIN_VALUE, Integer.MAX_VALUE}) {
            DUE.is("count(" + what + ")", x.count(what), -9);
        }
        refuseEach(x);
        int[] many = {1, 2, 3, 4, 5, 6};
        for (int i = 0; i < 6; i++) {
            DUE.is("count(" + (11 + i) + ")", x.count(11 + i), many[i]);
        }
    }

    /** One -1, two -2, and so on. */
    private static void refuseEach(MayBeRead x) {
        x.nodes(-1);
        for (int i = 0; i < 2; i++) {
            x.node(0, 0, 3);
        }
        for (int i = 0; i < 3; i++) {
            x.choose(5);
        }
        for (int i = 0; i < 4; i++) {
            x.feed(0, 0);
        }
        for (int i = 0; i < 6; i++) {
            x.feed(9, 0);
        }
        x.read();
        Due.read(x, "a|a|a|a|a|a|a|a");
        for (int i = 0; i < 5; i++) {
            x.unlike();
        }
    }
}
