import java.util.ArrayList;
import java.util.List;
import java.util.NoSuchElementException;
import java.util.function.Consumer;
import java.util.function.Function;
import java.util.function.Predicate;
import java.util.function.ToIntFunction;

/**
 * An object of the program that counts its calls: nothing is promised behind the 512th. It also knows them, so that
 * another can be brought to the same state and be looked at, which costs this one no calls.
 */
final class Counted {
    static final int MOST_CALLS = 512;
    private static int tooMany = 0;

    private final HingesOnHire object = new HingesOnHire();
    private final List<Consumer<HingesOnHire>> made = new ArrayList<>();
    private int calls = 0;

    /** How many objects were used for more calls than the document allows. */
    static int tooMany() {
        return tooMany;
    }

    int calls() {
        return calls;
    }

    /** Another object, with the same calls behind it. */
    Counted twin() {
        Counted twin = new Counted();
        for (Consumer<HingesOnHire> call : made) {
            twin.count();
            twin.made.add(call);
            call.accept(twin.object);
        }
        return twin;
    }

    private void count() {
        calls++;
        if (calls == MOST_CALLS + 1) {
            tooMany++;
            new IllegalStateException("more than " + MOST_CALLS + " calls on one object").printStackTrace(System.out);
        }
    }

    private int ask(ToIntFunction<HingesOnHire> call) {
        count();
        made.add(call::applyAsInt);
        return call.applyAsInt(object);
    }

    private boolean askIf(Predicate<HingesOnHire> call) {
        count();
        made.add(call::test);
        return call.test(object);
    }

    private <T> T askIfThere(Function<HingesOnHire, T> call) {
        count();
        made.add(o -> silently(o, call));
        return call.apply(object);
    }

    private static <T> void silently(HingesOnHire o, Function<HingesOnHire, T> call) {
        try {
            call.apply(o);
        } catch (NoSuchElementException e) {
            // It was thrown at the first object too, and seen there.
        }
    }

    int door(int d, int what) {
        return askIfThere(o -> o.door(d, what));
    }

    int hinge(int h, int what) {
        return askIfThere(o -> o.hinge(h, what));
    }

    long row(int i) {
        return askIfThere(o -> o.row(i));
    }

    int count(int what) {
        return ask(o -> o.count(what));
    }

    int sign(int v) {
        return ask(o -> o.sign(v));
    }

    boolean end(int n) {
        return askIf(o -> o.end(n));
    }

    int house() {
        return ask(o -> o.house());
    }

    int rule() {
        return ask(o -> o.rule());
    }

    int secret(int room, int v) {
        return ask(o -> o.secret(room, v));
    }

    int sheet(int kind, int n, int f, int step) {
        return ask(o -> o.sheet(kind, n, f, step));
    }

    int hang(int h, int d) {
        return ask(o -> o.hang(h, d));
    }

    int take(int h) {
        return ask(o -> o.take(h));
    }

    int oil(int h, int n) {
        return ask(o -> o.oil(h, n));
    }

    boolean bend(int h) {
        return askIf(o -> o.bend(h));
    }

    int day() {
        return ask(o -> o.day());
    }

    int days(int n) {
        return ask(o -> o.days(n));
    }

    int gale(int seed, int g) {
        return ask(o -> o.gale(seed, g));
    }

    int order() {
        return ask(o -> o.order());
    }

    int undo() {
        return ask(o -> o.undo());
    }

    int shut() {
        return ask(o -> o.shut());
    }

    int thief(int from) {
        return ask(o -> o.thief(from));
    }

    int kept() {
        return ask(o -> o.kept());
    }

    int quiet(int room) {
        return ask(o -> o.quiet(room));
    }

    int lasts(int room) {
        return ask(o -> o.lasts(room));
    }

    int rent(int n) {
        return ask(o -> o.rent(n));
    }

    int rusts(int d) {
        return ask(o -> o.rusts(d));
    }

    int wall(int room) {
        return ask(o -> o.wall(room));
    }

    int guard(int v) {
        return ask(o -> o.guard(v));
    }

    int all(int those) {
        return ask(o -> o.all(those));
    }

    int most() {
        return ask(o -> o.most());
    }

    int best() {
        return ask(o -> o.best());
    }

    int cheap(int v) {
        return ask(o -> o.cheap(v));
    }

    int change(int v) {
        return ask(o -> o.change(v));
    }

    int next() {
        return ask(o -> o.next());
    }

    int spare() {
        return ask(o -> o.spare());
    }

    int risk(int g) {
        return ask(o -> o.risk(g));
    }

    int stands() {
        return ask(o -> o.stands());
    }

    int heard(int creak) {
        return ask(o -> o.heard(creak));
    }

    int forget() {
        return ask(o -> o.forget());
    }

    int ways() {
        return ask(o -> o.ways());
    }

    int been(int k) {
        return ask(o -> o.been(k));
    }

    int sure() {
        return ask(o -> o.sure());
    }

    int behind(int d, int creak) {
        return ask(o -> o.behind(d, creak));
    }

    int bid(int h) {
        return ask(o -> o.bid(h));
    }

    int rings() {
        return ask(o -> o.rings());
    }

    boolean keep(int i) {
        return askIf(o -> o.keep(i));
    }

    boolean again(int i) {
        return askIf(o -> o.again(i));
    }
}
