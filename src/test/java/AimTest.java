/** Promises 28 to 30: aims, how a reading serves them, the best. */
public final class AimTest {
    private static final Due DUE = new Due("AimTest");
    private static final String SPENT = "a|a|a|a|a|a|a|a";

    public static void main(String[] args) {
        aim();
        aimRefused();
        serves();
        best();
        DUE.finish();
    }

    private static void aim() {
        MayBeRead x = new MayBeRead();
        int[] weights = {-99, 99, 0, 1, -1, 50, 50, 7};
        for (int i = 0; i < 8; i++) {
            DUE.is("aim(" + i * 4 + ", " + weights[i] + ")", x.aim(i * 4, weights[i]), i + 1);
            DUE.is("count(2)", x.count(2), i + 1);
        }
        DUE.is("the ninth", x.aim(0, 0), -6);
        DUE.is("count(2) after it", x.count(2), 8);
        DUE.is("count(16)", x.count(16), 1);
        DUE.is("aim(31, 5) where spent", Due.of(SPENT).aim(31, 5), 1);
    }

    private static void aimRefused() {
        MayBeRead x = new MayBeRead();
        DUE.is("aim(32, 0)", x.aim(32, 0), -1);
        DUE.is("aim(-1, 0)", x.aim(-1, 0), -1);
        DUE.is("aim(32, -100)", x.aim(32, -100), -1);
        DUE.is("aim(0, -100)", x.aim(0, -100), -4);
        DUE.is("aim(0, MIN)", x.aim(0, Integer.MIN_VALUE), -4);
        DUE.is("aim(0, 100)", x.aim(0, 100), -6);
        DUE.is("aim(0, MAX)", x.aim(0, Integer.MAX_VALUE), -6);
        DUE.is("count(2)", x.count(2), 0);
        for (int i = 0; i < 8; i++) {
            x.aim(1, 99);
        }
        DUE.is("aim(40, 0) when full", x.aim(40, 0), -1);
        DUE.is("aim(0, -100) when full", x.aim(0, -100), -4);
        DUE.is("aim(0, 0) when full", x.aim(0, 0), -6);
        DUE.is("serves(0)", x.serves(0), 792);
        DUE.is("count(11)", x.count(11), 4);
        DUE.is("count(14)", x.count(14), 3);
        DUE.is("count(16)", x.count(16), 3);
    }

    private static void serves() {
        // a-(b-c) lets 5, (a-b)-c does not; both let 1.
        MayBeRead x = Due.of("a-b-c");
        DUE.is("serves(0) of no aims", x.serves(0), 0);
        x.aim(5, 40);
        x.aim(1, -7);
        x.aim(0, 99);
        x.aim(5, 3);
        x.aim(31, 2);
        DUE.is("serves(0)", x.serves(0), 38);
        DUE.is("serves(1)", x.serves(1), -7);
        DUE.is("serves(2)", x.serves(2), 1000000001);
        DUE.is("serves(-1)", x.serves(-1), 1000000001);
        DUE.is("count(11)", x.count(11), 2);
        Due.read(x, SPENT);
        DUE.is("serves(-1) where spent", x.serves(-1), 1000000005);
        DUE.is("count(15)", x.count(15), 1);
    }

    private static void best() {
        MayBeRead x = Due.of("a-b-c");
        DUE.is("best() of no aims", x.best(), 0);
        x.aim(5, -1);
        DUE.is("best() where 5 is not wanted", x.best(), 1);
        x.aim(5, 2);
        DUE.is("best() where 5 is wanted", x.best(), 0);
        x.aim(5, -1);
        DUE.is("best() of several the least", x.best(), 0);
        // !(a&(b|c)), !((a&b)|c), (!a)&(b|c), (!(a&b))|c, ((!a)&b)|c: 3 to 5 are let by 0, 3, 4, by 3, 4 and by 0, 3, 4.
        MayBeRead five = Due.of("!a&b|c");
        five.aim(0, -50);
        five.aim(4, 60);
        DUE.is("best() of !a&b|c", five.best(), 2);
        DUE.is("serves(2)", five.serves(2), 60);
        DUE.is("serves(0)", five.serves(0), 10);
        DUE.is("best() where spent", Due.of(SPENT).best(), -5);
    }
}
