import java.util.ArrayList;
import java.util.List;

/**
 * "What is refused changes nothing": of two objects that are used alike one is called and refused; all that they answer
 * then is the same. What only asks changes nothing either.
 */
public final class RefusalTest extends Due {
    private static final int[] WORDS = bytes("a dictionary of some words");
    private static final int[] SOME = bytes("some words, some words of a dictionary, and some more");
    private static final int LEFT = SOME.length;

    private interface State {
        Counted made();
    }

    private interface Call {
        long on(Counted x);
    }

    public static void main(String[] args) {
        ofNew();
        ofNumbersOutOfBounds();
        ofThingsThatAreNot();
        ofFormsAndKinds();
        ofNoRoom();
        asking();
        end();
    }

    // ---- states

    /** Everything is used: a RULE is broken, two BLOCKS are told, a PIECE is behind them, all of set() is changed. */
    private static Counted used() {
        Counted x = new Counted();
        x.load(bytes(0x10, "a", 0, 0)).open(0);
        x.loadWords(WORDS);
        x.set(0, 33);
        for (int what = 1; what <= 4; what++) {
            x.set(what, 1);
        }
        x.set(5, -7);
        x.load(SOME).pack(1, 2);
        x.load(bytes("a piece")).skip(1, 90);
        return x.load(SOME);
    }

    /** No room: the out has 12,000 bytes, the input 4,000. */
    private static Counted full() {
        Counted x = used();
        x.load(bytes(0x1F, "a", 1, 0, times(46, 255), 245, 0x50, "bcdef")).open(0);
        return x.load(unlike(4000));
    }

    /** All that the object tells; then, as they can't be asked, what its settings, input and dictionary do. */
    private static List<Long> stateOf(Counted x) {
        List<Long> all = new ArrayList<>();
        for (int i = 0; i <= 3; i++) {
            all.add((long) x.told(i));
        }
        for (int i = 0; i <= 2; i++) {
            all.add(x.sum(i));
        }
        all.add((long) x.rule(0));
        all.add((long) x.rule(1));
        for (int i = 0; i <= 2; i++) {
            for (int what = 0; what <= 6; what++) {
                all.add((long) x.block(i, what));
            }
        }
        all.add((long) x.set(0, 16));
        for (int what = 1; what <= 5; what++) {
            all.add((long) x.set(what, 0));
        }
        all.add((long) x.pack(2, 0));
        all.add(x.sum(0));
        all.add(x.sum(1));
        int words = x.told(2);
        if (words >= 19) {
            all.add((long) x.load(bytes(0x0F, number(words, 2), words - 19, 0x50, "vwxyz")).open(0));
            all.add(x.sum(0));
            all.add(x.sum(1));
        }
        return all;
    }

    private static void leaves(String what, State state, Call call, long want) {
        Counted x = state.made();
        due(what, call.on(x), want);
        List<Long> got = stateOf(x);
        List<Long> untouched = stateOf(state.made());
        due(what + " changes nothing: how much is asked", got.size(), untouched.size());
        for (int i = 0; i < untouched.size() && i < got.size(); i++) {
            due(what + " changes nothing: answer " + i, got.get(i), untouched.get(i));
        }
    }

    private static void bad(String what, Call call) {
        leaves(what, RefusalTest::used, call, BAD);
    }

    // ---- refused

    private static void ofNew() {
        leaves("new: out(0)", Counted::new, x -> x.out(0), BAD);
        leaves("new: cut(1)", Counted::new, x -> x.cut(1), BAD);
        leaves("new: block(0, 0)", Counted::new, x -> x.block(0, 0), NONE);
        leaves("new: longest(0)", Counted::new, x -> x.longest(0), BAD);
        leaves("new: near(0, 1)", Counted::new, x -> x.near(0, 1), BAD);
        leaves("new: open(4)", Counted::new, x -> x.open(4), BAD);
        leaves("new: set(0, 15)", Counted::new, x -> x.set(0, 15), BAD);
    }

    private static void ofNumbersOutOfBounds() {
        for (int n : new int[] {Integer.MIN_VALUE, -1, LEFT + 1, 4000, Integer.MAX_VALUE}) {
            bad("cut(" + n + ")", x -> x.cut(n));
        }
        bad("out(-1)", x -> x.out(-1));
        bad("out() behind the last", x -> x.out(x.told(1)));
        for (int what : new int[] {Integer.MIN_VALUE, -1, 6, Integer.MAX_VALUE}) {
            bad("set(" + what + ", 1)", x -> x.set(what, 1));
            bad("set(" + what + ", 16)", x -> x.set(what, 16));
        }
        for (int v : new int[] {Integer.MIN_VALUE, -1, 0, 15, 4001, Integer.MAX_VALUE}) {
            bad("set(0, " + v + ")", x -> x.set(0, v));
        }
        for (int what = 1; what <= 4; what++) {
            int flag = what;
            for (int v : new int[] {Integer.MIN_VALUE, -1, 2, 256, Integer.MAX_VALUE}) {
                bad("set(" + flag + ", " + v + ")", x -> x.set(flag, v));
            }
        }
        for (int p : new int[] {Integer.MIN_VALUE, -1, LEFT, 4000, Integer.MAX_VALUE}) {
            bad("longest(" + p + ")", x -> x.longest(p));
            bad("near(" + p + ", 1)", x -> x.near(p, 1));
            bad("near(0, " + (p == LEFT ? LEFT + 1 : p) + ")", x -> x.near(0, p == LEFT ? LEFT + 1 : p));
        }
        bad("near(0, 0)", x -> x.near(0, 0));
        for (int what : new int[] {Integer.MIN_VALUE, -1, 7, Integer.MAX_VALUE}) {
            bad("block(0, " + what + ")", x -> x.block(0, what));
            bad("rule(" + what + ")", x -> x.rule(what));
            bad("sum(" + what + ")", x -> x.sum(what));
            bad("told(" + what + ")", x -> x.told(what));
        }
        bad("rule(2)", x -> x.rule(2));
        bad("sum(3)", x -> x.sum(3));
        bad("told(4)", x -> x.told(4));
        for (int form : new int[] {Integer.MIN_VALUE, -1, 1, 3, 4, Integer.MAX_VALUE}) {
            bad("bound(" + form + ", 0)", x -> x.bound(form, 0));
        }
        bad("bound(0, -1)", x -> x.bound(0, -1));
        bad("bound(2, -1)", x -> x.bound(2, -1));
    }

    private static void ofThingsThatAreNot() {
        for (int i : new int[] {Integer.MIN_VALUE, -1, 2, Integer.MAX_VALUE}) {
            leaves("block(" + i + ", 0)", RefusalTest::used, x -> x.block(i, 0), NONE);
        }
        leaves("near(0, all)", RefusalTest::used, x -> x.near(0, LEFT), NONE);
        leaves("rule(1) without", Counted::new, x -> x.rule(1), NONE);
    }

    private static void ofFormsAndKinds() {
        for (int form : new int[] {Integer.MIN_VALUE, -1, 4, Integer.MAX_VALUE}) {
            bad("pack(" + form + ", 0)", x -> x.pack(form, 0));
            bad("open(" + form + ")", x -> x.open(form));
            bad("more(" + form + ", 0)", x -> x.more(form, 0));
            bad("skip(" + form + ", 80)", x -> x.skip(form, 80));
            bad("skip(" + form + ", 128)", x -> x.skip(form, 128));
        }
        for (int level : new int[] {Integer.MIN_VALUE, -1, 3, Integer.MAX_VALUE}) {
            for (int form = 0; form <= 3; form++) {
                int ofForm = form;
                bad("pack(" + form + ", " + level + ")", x -> x.pack(ofForm, level));
                bad("more(" + form + ", " + level + ")", x -> x.more(ofForm, level));
            }
        }
        for (int form = 0; form <= 2; form += 2) {
            int ofForm = form;
            bad("more(" + form + ", 0)", x -> x.more(ofForm, 0));
            bad("skip(" + form + ", 80)", x -> x.skip(ofForm, 80));
            bad("skip(" + form + ", 128)", x -> x.skip(ofForm, 128));
        }
        for (int kind : new int[] {Integer.MIN_VALUE, -1, 79, 96, 128, 254, 256 + 80, Integer.MAX_VALUE}) {
            bad("skip(1, " + kind + ")", x -> x.skip(1, kind));
        }
        for (int kind : new int[] {Integer.MIN_VALUE, -1, 0, 1, 80, 127, 255, 256 + 128, Integer.MAX_VALUE}) {
            bad("skip(3, " + kind + ")", x -> x.skip(3, kind));
        }
    }

    private static void ofNoRoom() {
        leaves("full: feed()", RefusalTest::full, x -> x.feed(1, 2, 3, 4, 5), FULL);
        leaves("full: back()", RefusalTest::full, Counted::back, FULL);
        leaves("full: dictionary()", RefusalTest::full, Counted::dictionary, FULL);
        for (int level = 0; level <= 2; level++) {
            int byLevel = level;
            leaves("full: more(1, " + level + ")", RefusalTest::full, x -> x.more(1, byLevel), FULL);
            leaves("full: more(3, " + level + ")", RefusalTest::full, x -> x.more(3, byLevel), FULL);
        }
        for (int kind = 80; kind <= 95; kind += 15) {
            int ofKind = kind;
            leaves("full: skip(1, " + kind + ")", RefusalTest::full, x -> x.skip(1, ofKind), FULL);
        }
        for (int kind = 128; kind <= 254; kind += 126) {
            int ofKind = kind;
            leaves("full: skip(3, " + kind + ")", RefusalTest::full, x -> x.skip(3, ofKind), FULL);
        }
    }

    private static void asking() {
        leaves("out(0)", RefusalTest::used, x -> x.out(0), 4);
        leaves("rule(0)", RefusalTest::used, x -> x.rule(0), 2);
        leaves("rule(1)", RefusalTest::used, x -> x.rule(1), 2);
        leaves("block(1, 2)", RefusalTest::used, x -> x.block(1, 2), LEFT - 33);
        leaves("longest(12)", RefusalTest::used, x -> x.longest(12), 10);
        leaves("near(12, 10)", RefusalTest::used, x -> x.near(12, 10), 12);
        leaves("sum(1)", RefusalTest::used, x -> x.sum(1) >>> 32, 0);
        leaves("bound(0, 255)", RefusalTest::used, x -> x.bound(0, 255), 272);
        leaves("told(2)", RefusalTest::used, x -> x.told(2), WORDS.length);
        leaves("cut() of none", RefusalTest::used, x -> x.cut(LEFT), 0);
        leaves("set() to what it was", RefusalTest::used, x -> x.set(5, -7), -7);
    }
}
