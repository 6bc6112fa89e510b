import java.util.ArrayList;
import java.util.List;

/**
 * Two objects of one past, of which only one is asked a call: what the call changed is what tells the two apart.
 * With all that is asked to tell it an object stays below its 512 calls.
 */
final class Twins {
    interface Call {
        long of(MayBeRead x);
    }

    private static final int MOST_LOOKED_AT = 5;

    private final Due due;

    Twins(Due due) {
        this.due = due;
    }

    /** A refusal: it answers its number, and nothing changes but how many there were of it. */
    void refused(String name, Call call, int number, Past... pasts) {
        for (Past past : pasts) {
            ask(name, past, call, number, number);
        }
    }

    /** The refusal of serves(). */
    void servesRefused(String name, Call call, int number, Past... pasts) {
        for (Past past : pasts) {
            ask(name, past, call, 1000000000L - number, number);
        }
    }

    /** It answers so, and nothing changes, nor is a refusal counted. */
    void changesNothing(String name, Call call, long answer, Past... pasts) {
        for (Past past : pasts) {
            ask(name, past, call, answer, 0);
        }
    }

    private void ask(String name, Past past, Call call, long answer, int number) {
        MayBeRead asked = new MayBeRead();
        MayBeRead other = new MayBeRead();
        past.of(asked);
        past.of(other);
        String of = name + " after " + past;
        due.is(of, call.of(asked), answer);
        for (int what = 11; what <= 16; what++) {
            int more = what == 10 - number ? 1 : 0;
            due.is(of + ": count(" + what + ")", asked.count(what), other.count(what) + more);
        }
        alike(of, asked, other);
    }

    /** All that two objects answer is the same, the numbers of refusals left out. */
    void alike(String of, MayBeRead asked, MayBeRead other) {
        due.that(of + ": all else is as it was", answers(asked).equals(answers(other)));
        due.is(of + ": read()", asked.read(), other.read());
        due.that(of + ": the tape was as it was", answers(asked).equals(answers(other)));
        due.is(of + ": on()", asked.on(), other.on());
        due.that(of + ": the image was as it was", answers(asked).equals(answers(other)));
        for (int rule = 0; rule < 6; rule++) {
            due.is(of + ": choose(" + rule + ")", asked.choose(rule), other.choose(rule));
        }
    }

    private static List<Long> answers(MayBeRead x) {
        List<Long> all = new ArrayList<>();
        for (int what = 0; what <= 4; what++) {
            all.add((long) x.count(what));
        }
        int words = x.count(0);
        for (int i = 0; i < words; i++) {
            all.add((long) x.wordAt(i));
        }
        long readings = x.readings();
        all.add(readings);
        for (int i = 0; i < Math.min(MOST_LOOKED_AT, readings); i++) {
            all.add(x.means(i));
            all.add((long) x.idle(i));
            all.add((long) x.serves(i));
        }
        for (int i = -1; i < MOST_LOOKED_AT; i++) {
            all.add((long) x.leftOver(i));
        }
        all.add((long) x.passedOver());
        all.add((long) x.hangs());
        all.add((long) x.best());
        return all;
    }
}
