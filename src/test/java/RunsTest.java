/** Long runs of calls, drawn by a fixed seed: every answer is the plain model's, and nothing throws. */
public final class RunsTest {
    private static final int RUNS = 1500;
    private static final int CALLS = 500;
    private static final int[] ODD = {-1, 5, 10, 31, 127, Integer.MIN_VALUE, Integer.MAX_VALUE};
    private static final String[] CALL_NAMES = {"letter", "blank", "fault", "passage", "place", "man", "about", "as",
        "wax", "bind", "stroke", "outcome", "waxing", "hold", "listener", "sold", "log", "forget", "fits", "sure",
        "voyages", "image", "restore", "count", "digest"};

    private final Check check;
    private final WaxInEars program = new WaxInEars();
    private final PlainModel model = new PlainModel();
    private long seed;

    private RunsTest(Check check, long seed) {
        this.check = check;
        this.seed = seed;
    }

    public static void main(String[] args) {
        Check check = new Check();
        for (int run = 0; run < RUNS && !check.hasFailed(); run++) {
            check.begin("run " + run);
            new RunsTest(check, run).go();
        }
        check.end();
    }

    private int draw(int bound) {
        seed = seed * 6364136223846793005L + 1442695040888963407L;
        return (int) ((seed >>> 33) % bound);
    }

    /** Mostly from 0 up to a bound, now and then anything. */
    private int number(int bound) {
        return draw(25) == 0 ? ODD[draw(ODD.length)] : draw(bound);
    }

    private void go() {
        for (int call = 0; call < CALLS && !check.hasFailed(); call++) {
            int which = draw(40);
            if (which < CALL_NAMES.length) {
                call(which);
            } else if (which < 28) {
                readAndMan();
            } else {
                call(which < 33 ? 10 : which < 37 ? 8 + draw(2) : 11 + draw(10));
            }
        }
    }

    private void call(int which) {
        int a = argument(which);
        int b = which == 9 ? number(4) : number(which == 5 ? 10 : which == 20 ? Integer.MAX_VALUE : 8);
        int c = number(which == 5 ? 10 : 3);
        String told = CALL_NAMES[which] + "(" + a + ", " + b + ", " + c + ")";
        try {
            check.due(told, answer(model, which, a, b, c), answer(program, which, a, b, c));
        } catch (RuntimeException e) {
            check.fail(told + " threw " + e);
        }
    }

    private int argument(int which) {
        switch (which) {
            case 0: return draw(2) == 0 ? "0145:.srebb".charAt(draw(11)) : number(130);
            case 4: return number(13);
            case 5: return number(5);
            case 12: return number(6);
            case 16: return number(draw(2) == 0 ? 2 : 32);
            case 20: return number(21);
            case 23: return number(11);
            default: return number(which == 11 ? 3 : 5);
        }
    }

    private static long answer(WaxInEars x, int which, int a, int b, int c) {
        switch (which) {
            case 0: return x.letter(a);
            case 1: return x.blank();
            case 2: return x.fault();
            case 3: return x.passage();
            case 4: return x.place(a, c);
            case 5: return x.man(a, b, c);
            case 6: return x.about(a, b);
            case 7: return x.as(a, b % 6);
            case 8: return x.wax(a, c > 0);
            case 9: return x.bind(a, b);
            case 10: return x.stroke();
            case 11: return x.outcome(a);
            case 12: return x.waxing(a, c % 3);
            case 13: return x.hold(a);
            case 14: return x.listener();
            case 15: return x.sold();
            case 16: return x.log(a);
            case 17: return x.forget();
            case 18: return x.fits();
            case 19: return x.sure(a);
            case 20: return x.voyages(a, b, c);
            case 21: return x.image();
            case 22: return x.restore();
            case 23: return x.count(a);
            default: return x.digest();
        }
    }

    private static long answer(PlainModel x, int which, int a, int b, int c) {
        switch (which) {
            case 0: return x.letter(a);
            case 1: return x.blank();
            case 2: return x.fault();
            case 3: return x.passage();
            case 4: return x.place(a, c);
            case 5: return x.man(a, b, c);
            case 6: return x.about(a, b);
            case 7: return x.as(a, b % 6);
            case 8: return x.wax(a, c > 0);
            case 9: return x.bind(a, b);
            case 10: return x.stroke();
            case 11: return x.outcome(a);
            case 12: return x.waxing(a, c % 3);
            case 13: return x.hold(a);
            case 14: return x.listener();
            case 15: return x.sold();
            case 16: return x.log(a);
            case 17: return x.forget();
            case 18: return x.fits();
            case 19: return x.sure(a);
            case 20: return x.voyages(a, b, c);
            case 21: return x.image();
            case 22: return x.restore();
            case 23: return x.count(a);
            default: return x.digest();
        }
    }

    /** A passage that can be read, and men for it, so that the runs come to voyages. */
    private void readAndMan() {
        typeOnBoth("\b" + draw(2) + draw(10) + (1 + draw(9)) + ":");
        int places = 1 + draw(draw(3) == 0 ? 12 : 5);
        for (int place = 0; place < places; place++) {
            String what = new String[] {".", "s", "r", "e", "b", "s"}[draw(6)];
            typeOnBoth(what.equals("s") || what.equals("b") ? what + (1 + draw(9)) : what);
        }
        call(2);
        call(3);
        int men = 1 + draw(5);
        for (int man = 0; man < men; man++) {
            call(5);
        }
    }

    private void typeOnBoth(String text) {
        for (int i = 0; i < text.length(); i++) {
            if (text.charAt(i) == '\b') {
                call(1);
            } else {
                check.due("letter", model.letter(text.charAt(i)), program.letter(text.charAt(i)));
            }
        }
    }
}
