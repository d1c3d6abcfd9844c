/** What the tests of the promises and of their edges begin with: objects, crews, the numbers of the document. */
abstract class Given {
    static final int NONE = -1, UNKNOWN = -101, OUTSIDE = -102, STATE = -103, FULL = -104;
    static final int MAN = 0, DEAF = 1, OLD = 2, SAILOR = 3, MATE = 4;
    static final int UNDER_WAY = 0, THROUGH = 1, STRUCK = 2, DRIFTING = 3;
    static final int LEAST = Integer.MIN_VALUE, MOST = Integer.MAX_VALUE;

    static final Check check = new Check();

    static void due(String call, long want, long got) {
        check.due(call, want, got);
    }

    static WaxInEars typed(WaxInEars x, String text) {
        for (int i = 0; i < text.length(); i++) {
            x.letter(text.charAt(i));
        }
        return x;
    }

    static WaxInEars page(String text) {
        return typed(new WaxInEars(), text);
    }

    static WaxInEars on(String text) {
        WaxInEars x = page(text);
        x.passage();
        return x;
    }

    /** A passage and men, three numbers each: kind, oar, will. */
    static WaxInEars crewOn(String text, int... men) {
        WaxInEars x = on(text);
        for (int i = 0; i + 2 < men.length; i += 3) {
            x.man(men[i], men[i + 1], men[i + 2]);
        }
        return x;
    }

    static WaxInEars rowed(WaxInEars x, int strokes) {
        for (int stroke = 0; stroke < strokes; stroke++) {
            x.stroke();
        }
        return x;
    }

    static void counts(String when, WaxInEars x, int... want) {
        for (int what = 0; what < want.length; what++) {
            due(when + " count(" + what + ")", want[what], x.count(what));
        }
    }

    static void outcome(WaxInEars x, int lost, int strokes, int how) {
        due("outcome(0)", lost, x.outcome(0));
        due("outcome(1)", strokes, x.outcome(1));
        due("outcome(2)", how, x.outcome(2));
    }

    static void waxing(WaxInEars x, int pieces, int lost, int set) {
        due("waxing(" + pieces + ", 0)", lost, x.waxing(pieces, 0));
        due("waxing(" + pieces + ", 1)", set, x.waxing(pieces, 1));
    }

    static int seedAfter(int seed, int draws) {
        java.math.BigInteger next = java.math.BigInteger.valueOf(seed);
        for (int draw = 0; draw < draws; draw++) {
            next = next.multiply(java.math.BigInteger.valueOf(1103515245)).add(java.math.BigInteger.valueOf(12345))
                .mod(java.math.BigInteger.TWO.pow(31));
        }
        return next.intValueExact();
    }

    static long digestOf(long... numbers) {
        long h = 757;
        for (long number : numbers) {
            h = 31 * h + number;
        }
        return h;
    }
}
