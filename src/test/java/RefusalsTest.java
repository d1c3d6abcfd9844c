import java.util.ArrayList;
import java.util.List;
import java.util.function.Supplier;
import java.util.function.ToIntFunction;

/** Each refusal in each state that asks for it: what it answers, and that it changes nothing, nor the image. */
public final class RefusalsTest extends Given {
    private static final int[] ODD_MEN = {LEAST, -32, -1, 5, 31, 32, MOST};

    private final String state;
    private final Supplier<WaxInEars> made;
    private int refusals;

    private RefusalsTest(String state, Supplier<WaxInEars> made) {
        this.state = state;
        this.made = made;
    }

    public static void main(String[] args) {
        withoutPassage("new", WaxInEars::new);
        withoutPassage("letters", () -> page("45"));
        withoutPassage("a passage that is not read", () -> page("451:."));
        withoutMen("no men", () -> typed(on("059:s6r"), "45"));
        withoutMen("no men, an image", () -> imaged(on("059:s6r")));
        withoutMen("no men, a full page and log", () -> typed(logged(on("059:s6r"), 8), ".".repeat(30)));
        underWay("under way", RefusalsTest::full);
        underWay("under way, an image", () -> changed(imaged(full())));
        later("one lost", () -> rowed(imaged(full()), 1));
        later("five strokes later", () -> rowed(imaged(full()), 5));
        over("through", THROUGH, () -> rowed(imaged(five("009:..")), 2));
        over("struck", STRUCK, () -> rowed(imaged(waxedFive("009:r.")), 1));
        over("drifting", DRIFTING, () -> rowed(imaged(weakFive("009:s9")), 1));
        over("over, no image", THROUGH, () -> rowed(five("009:."), 1));
        newImageGone();
        check.end();
    }

    // ---- the states

    private static WaxInEars five(String text) {
        return crewOn(text, MAN, 1, 0, DEAF, 2, 1, OLD, 3, 9, SAILOR, 4, 9, MATE, 5, 9);
    }

    private static WaxInEars weakFive(String text) {
        return crewOn(text, MAN, 1, 0, OLD, 2, 1, MAN, 3, 2, SAILOR, 4, 3, MATE, 5, 4);
    }

    private static WaxInEars waxedFive(String text) {
        WaxInEars x = five(text);
        for (int man = 0; man < 5; man++) {
            x.wax(man, true);
        }
        return x;
    }

    private static WaxInEars logged(WaxInEars x, int told) {
        for (int stroke = 0; stroke < told; stroke++) {
            x.log(0);
        }
        return x;
    }

    /** Five men, wax and knots, a full log, a full page; one swims in the first stroke; it stays. */
    private static WaxInEars full() {
        WaxInEars x = five("459:s5e");
        x.wax(2, true);
        x.bind(3, 4);
        x.log(1);
        return typed(logged(x, 7), "451:.r" + "s".repeat(24));
    }

    private static WaxInEars imaged(WaxInEars x) {
        x.image();
        return x;
    }

    private static WaxInEars changed(WaxInEars x) {
        x.wax(0, true);
        x.bind(4, 9);
        return x;
    }

    // ---- what each state refuses

    private static void withoutPassage(String state, Supplier<WaxInEars> made) {
        RefusalsTest t = new RefusalsTest(state, made);
        t.inAnyState();
        t.ofNumbersWithoutMen();
        t.refused("place(0, 0)", UNKNOWN, x -> x.place(0, 0));
        t.refused("place(0, 2)", UNKNOWN, x -> x.place(0, 2));
        t.refused("image()", STATE, WaxInEars::image);
        t.refused("restore()", STATE, WaxInEars::restore);
        t.refused("man(0, 1, 0)", STATE, x -> x.man(0, 1, 0));
        t.end();
    }

    private static void withoutMen(String state, Supplier<WaxInEars> made) {
        RefusalsTest t = new RefusalsTest(state, made);
        t.inAnyState();
        t.ofNumbersWithoutMen();
        t.refused("passage()", STATE, WaxInEars::passage);
        t.refused("place(2, 0)", UNKNOWN, x -> x.place(2, 0));
        t.refused("place(0, -1)", OUTSIDE, x -> x.place(0, -1));
        t.refused("place(1, 2)", OUTSIDE, x -> x.place(1, 2));
        if (made.get().count(8) == 8) {
            t.refused("log(0)", FULL, x -> x.log(0));
            t.refused("letter('.')", FULL, x -> x.letter('.'));
        }
        t.end();
    }

    private static void underWay(String state, Supplier<WaxInEars> made) {
        RefusalsTest t = new RefusalsTest(state, made);
        t.inAnyState();
        t.withFiveMen();
        t.whenFull();
        t.refused("man(0, 1, 0)", FULL, x -> x.man(0, 1, 0));
        t.end();
    }

    private static void later(String state, Supplier<WaxInEars> made) {
        RefusalsTest t = new RefusalsTest(state, made);
        t.inAnyState();
        t.withFiveMen();
        t.whenFull();
        check.begin(state);
        due("how it is", UNDER_WAY, made.get().count(7));
        due("one is lost", 1, made.get().about(0, 5));
        t.refused("man(0, 1, 0)", STATE, x -> x.man(0, 1, 0));
        t.refused("wax(0, true)", STATE, x -> x.wax(0, true));
        t.refused("bind(0, 9)", STATE, x -> x.bind(0, 9));
        t.refused("hold(0)", STATE, x -> x.hold(0));
        t.end();
    }

    private static void over(String state, int how, Supplier<WaxInEars> made) {
        RefusalsTest t = new RefusalsTest(state, made);
        check.begin(state);
        due("how it is", how, made.get().count(7));
        t.inAnyState();
        t.withFiveMen();
        t.refused("passage()", STATE, WaxInEars::passage);
        t.refused("man(0, 1, 0)", STATE, x -> x.man(0, 1, 0));
        t.stateOfWhatWouldBe();
        for (int man = 0; man < 5; man++) {
            int one = man;
            t.refused("wax(" + one + ", true)", STATE, x -> x.wax(one, true));
            t.refused("wax(" + one + ", false)", STATE, x -> x.wax(one, false));
            t.refused("bind(" + one + ", 0)", STATE, x -> x.bind(one, 0));
            t.refused("bind(" + one + ", 9)", STATE, x -> x.bind(one, 9));
            t.refused("hold(" + one + ")", STATE, x -> x.hold(one));
        }
        t.end();
    }

    /** Behind another passage the image is gone, and a restore() that is refused does not bring it back. */
    private static void newImageGone() {
        RefusalsTest t = new RefusalsTest("another passage since the image", () -> {
            WaxInEars x = typed(imaged(five("009:..")), "451:.");
            x.passage();
            return x;
        });
        t.refused("restore()", STATE, WaxInEars::restore);
        t.end();
    }

    private void inAnyState() {
        for (int code : new int[] {LEAST, -1, 0, 31, 127, MOST}) {
            refused("letter(" + code + ")", OUTSIDE, x -> x.letter(code));
        }
        for (int what : new int[] {LEAST, -1, 11, MOST}) {
            refused("count(" + what + ")", OUTSIDE, x -> x.count(what));
        }
        refusedMen();
        refusedWhats();
        for (int place : new int[] {LEAST, -1, 12, MOST}) {
            refused("place(" + place + ", 0)", UNKNOWN, x -> x.place(place, 0));
            refused("place(" + place + ", 2)", UNKNOWN, x -> x.place(place, 2));
        }
        for (int set : new int[] {LEAST, -1, 32, MOST}) {
            refused("log(" + set + ")", OUTSIDE, x -> x.log(set));
        }
        for (int man : ODD_MEN) {
            refused("about(" + man + ", 8)", UNKNOWN, x -> x.about(man, 8));
            refused("as(" + man + ", 5)", UNKNOWN, x -> x.as(man, 5));
            refused("wax(" + man + ", true)", UNKNOWN, x -> x.wax(man, true));
            refused("bind(" + man + ", 10)", UNKNOWN, x -> x.bind(man, 10));
            refused("hold(" + man + ")", UNKNOWN, x -> x.hold(man));
            refused("sure(" + man + ")", UNKNOWN, x -> x.sure(man));
        }
    }

    private void refusedMen() {
        refused("man(-1, 1, 0)", OUTSIDE, x -> x.man(-1, 1, 0));
        refused("man(5, 1, 0)", OUTSIDE, x -> x.man(5, 1, 0));
        refused("man(0, 0, 0)", OUTSIDE, x -> x.man(0, 0, 0));
        refused("man(0, 10, 0)", OUTSIDE, x -> x.man(0, 10, 0));
        refused("man(0, 1, -1)", OUTSIDE, x -> x.man(0, 1, -1));
        refused("man(0, 1, 10)", OUTSIDE, x -> x.man(0, 1, 10));
    }

    private void refusedWhats() {
        refused("outcome(-1)", OUTSIDE, x -> x.outcome(-1));
        refused("outcome(3)", OUTSIDE, x -> x.outcome(3));
        refused("waxing(-1, 0)", OUTSIDE, x -> x.waxing(-1, 0));
        refused("waxing(6, 0)", OUTSIDE, x -> x.waxing(6, 0));
        refused("waxing(0, -1)", OUTSIDE, x -> x.waxing(0, -1));
        refused("waxing(0, 2)", OUTSIDE, x -> x.waxing(0, 2));
        refused("voyages(0, 0, 0)", OUTSIDE, x -> x.voyages(0, 0, 0));
        refused("voyages(21, 0, 0)", OUTSIDE, x -> x.voyages(21, 0, 0));
        refused("voyages(1, -1, 0)", OUTSIDE, x -> x.voyages(1, -1, 0));
        refused("voyages(1, 0, -1)", OUTSIDE, x -> x.voyages(1, 0, -1));
        refused("voyages(1, 0, 3)", OUTSIDE, x -> x.voyages(1, 0, 3));
    }

    private void ofNumbersWithoutMen() {
        refused("about(0, 0)", UNKNOWN, x -> x.about(0, 0));
        refused("as(0, 0)", UNKNOWN, x -> x.as(0, 0));
        refused("wax(0, true)", UNKNOWN, x -> x.wax(0, true));
        refused("bind(0, 0)", UNKNOWN, x -> x.bind(0, 0));
        refused("hold(0)", UNKNOWN, x -> x.hold(0));
        refused("sure(0)", UNKNOWN, x -> x.sure(0));
        refused("log(1)", OUTSIDE, x -> x.log(1));
        refused("fits()", STATE, WaxInEars::fits);
        refused("voyages(1, 0, 0)", STATE, x -> x.voyages(1, 0, 0));
        stateOfWhatWouldBe();
    }

    private void stateOfWhatWouldBe() {
        refused("stroke()", STATE, WaxInEars::stroke);
        refused("outcome(0)", STATE, x -> x.outcome(0));
        refused("outcome(2)", STATE, x -> x.outcome(2));
        refused("waxing(0, 0)", STATE, x -> x.waxing(0, 0));
        refused("waxing(5, 1)", STATE, x -> x.waxing(5, 1));
        refused("listener()", STATE, WaxInEars::listener);
        refused("sold()", STATE, WaxInEars::sold);
    }

    private void withFiveMen() {
        for (int man = 0; man < 5; man++) {
            int one = man;
            refused("about(" + one + ", -1)", OUTSIDE, x -> x.about(one, -1));
            refused("about(" + one + ", 8)", OUTSIDE, x -> x.about(one, 8));
            refused("as(" + one + ", -1)", OUTSIDE, x -> x.as(one, -1));
            refused("as(" + one + ", 5)", OUTSIDE, x -> x.as(one, 5));
            refused("bind(" + one + ", -1)", OUTSIDE, x -> x.bind(one, -1));
            refused("bind(" + one + ", 10)", OUTSIDE, x -> x.bind(one, 10));
        }
    }

    private void whenFull() {
        refused("letter('.')", FULL, x -> x.letter('.'));
        refused("log(0)", FULL, x -> x.log(0));
        refused("log(31)", FULL, x -> x.log(31));
        refused("passage()", STATE, WaxInEars::passage);
    }

    // ---- that nothing is changed

    private void refused(String call, int want, ToIntFunction<WaxInEars> refusal) {
        check.begin(state + ", " + call);
        WaxInEars without = made.get();
        WaxInEars with = made.get();
        due(call, want, refusal.applyAsInt(with));
        same("it changes nothing", told(without), told(with));
        due("restore() behind it", without.restore(), with.restore());
        same("nor the image", told(without), told(with));
        refusals++;
    }

    /** What is told, however often, is no change either. */
    private void end() {
        check.begin(state);
        WaxInEars x = made.get();
        List<Long> first = told(x);
        same("what is told changes nothing", first, told(x));
        check.due("refusals of this state", 1, refusals > 0 ? 1 : 0);
    }

    private static void same(String what, List<Long> want, List<Long> got) {
        if (want.equals(got)) {
            check.pass();
        } else {
            check.fail(what + ": " + got + ", due is " + want);
        }
    }

    private static List<Long> told(WaxInEars x) {
        List<Long> all = new ArrayList<>();
        for (int what = 0; what <= 10; what++) {
            all.add((long) x.count(what));
        }
        for (int place = 0; place < x.count(0); place++) {
            all.add(x.place(place, 0) * 10L + x.place(place, 1));
        }
        for (int man = 0; man < 5; man++) {
            for (int what = 0; what <= 7; what++) {
                all.add((long) x.about(man, what));
            }
            all.add((long) x.as(man, SAILOR));
            all.add((long) x.hold(man));
            all.add((long) x.sure(man));
        }
        for (int what = 0; what <= 2; what++) {
            all.add((long) x.outcome(what));
            all.add((long) x.voyages(3, 5, what));
        }
        all.addAll(List.of((long) x.fault(), (long) x.waxing(2, 0), (long) x.waxing(2, 1), (long) x.listener()));
        all.addAll(List.of((long) x.sold(), (long) x.fits(), x.digest()));
        return all;
    }
}
