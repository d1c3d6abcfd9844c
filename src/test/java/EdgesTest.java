import java.math.BigInteger;
import java.util.ArrayList;
import java.util.List;
import java.util.function.ToIntFunction;

/** The edges that the document names, promise by promise: too small, too large, empty, full, a wrap-around. */
public final class EdgesTest extends Given {
    private static final int[] FIVE = {MAN, 9, 0, DEAF, 9, 0, OLD, 9, 0, SAILOR, 9, 0, MATE, 9, 0};
    private static final String TWELVE = "009:...........s9";

    public static void main(String[] args) {
        oneLetter();
        emptyPage();
        lettersThatFollow();
        faultOfTheWholePage();
        beginningsAreNone();
        needAndNoon();
        onePlaceToTwelve();
        strengths();
        placesThere();
        oars();
        aSixthMan();
        noManLater();
        holds();
        hearing();
        kinds();
        wax();
        knots();
        songsAgainstHolds();
        oarsAgainstNeed();
        theLastPlace();
        rocks();
        thirtyStrokes();
        piecesOfWax();
        ofLikeWaxings();
        leastKnots();
        whoListens();
        lessStrength();
        eightTold();
        theEighthFits();
        nobodySwimsWhenOver();
        allSetsOrNone();
        voyagesAndSeeds();
        strengthsDrawn();
        imageAndRestore();
        counts();
        digests();
        theLastCall();
        check.end();
    }

    private static WaxInEars waxed(WaxInEars x, int... men) {
        for (int man : men) {
            x.wax(man, true);
        }
        return x;
    }

    private static WaxInEars told(WaxInEars x, int... sets) {
        for (int set : sets) {
            x.log(set);
        }
        return x;
    }

    private static String some(int places) {
        return ".".repeat(places);
    }

    // ---- promises 2 to 6: the page and the passage

    private static void oneLetter() {
        check.begin("2: OUTSIDE: code (32 to 126)");
        for (int code = 32; code <= 126; code++) {
            due("letter(" + code + ")", 1, new WaxInEars().letter(code));
        }
        for (int code : new int[] {LEAST, -33, -1, 0, 31, 127, 128, 32 + 256, 65536 + 48, MOST}) {
            due("letter(" + code + ")", OUTSIDE, new WaxInEars().letter(code));
        }
        check.begin("2: FULL: above 30");
        WaxInEars x = new WaxInEars();
        for (int had = 0; had < 30; had++) {
            due("letter", had + 1, x.letter('s'));
        }
        due("letter 31", FULL, x.letter('s'));
        due("letter 31 again", FULL, x.letter('s'));
        due("letter 31, OUTSIDE comes first", OUTSIDE, x.letter(31));
        due("blank", 30, x.blank());
        due("letter 1", 1, x.letter('s'));
    }

    private static void emptyPage() {
        check.begin("3: how many letters it had");
        for (int letters = 0; letters <= 30; letters++) {
            WaxInEars x = page(some(letters));
            due("blank", letters, x.blank());
            due("blank of an empty page", 0, x.blank());
            due("letters", 0, x.count(9));
            due("fault of an empty page", 0, x.fault());
        }
        WaxInEars read = on("001:.");
        due("blank behind passage()", 0, read.blank());
        due("the passage stays", 1, read.count(0));
    }

    /** Of each letter that can come behind a beginning: whether a passage has it there. */
    private static void follow(String beginning, String letters) {
        for (int code = 32; code <= 126; code++) {
            int length = beginning.length();
            WaxInEars x = page(beginning + (char) code);
            int want = letters.indexOf(code) < 0 ? length : length + 1;
            due("fault of " + beginning + (char) code, want, x.fault());
            due("fault once more", want, x.fault());
            due("letters stay", length + 1, x.count(9));
            if (want == length) {
                x.letter('.');
                due("fault with a letter behind it", want, x.fault());
            }
        }
    }

    private static void lettersThatFollow() {
        check.begin("4: the first letter that no PASSAGE has there");
        String digits = "123456789";
        String places = ".serb";
        follow("", "01234");
        for (char tens = '0'; tens <= '3'; tens++) {
            follow("" + tens, "0" + digits);
        }
        follow("4", "012345");
        follow("00", digits);
        follow("45", digits);
        follow("001", ":");
        follow("459", ":");
        follow("001:", places);
        follow("001:s", digits);
        follow("001:b", digits);
        follow("001:.", places);
        follow("001:r", places);
        follow("001:e", places);
        follow("001:s1", places);
        follow("001:b9", places);
        follow("001:" + some(10), places);
        follow("001:" + some(11), places);
        follow("001:" + some(11) + "b", digits);
        follow("001:" + some(12), "");
        follow("001:" + some(11) + "s9", "");
        follow("001:s1s2s3s4s5s6b7b8b9b1b2b3", "");
    }

    private static void faultOfTheWholePage() {
        check.begin("4: how many letters it has, if there is none");
        String passage = "459:s1b2s3b4s5b6s7b8s9b1s2b3";
        for (int letters = 0; letters <= passage.length(); letters++) {
            due("fault", letters, page(passage.substring(0, letters)).fault());
        }
        due("fault of a full page", 28, page(passage + "..").fault());
        due("fault of a full page, at its first letter", 0, page("s" + passage + ".").fault());
        due("fault behind passage()", 0, on(passage).fault());
    }

    private static void beginningsAreNone() {
        check.begin("5: STATE: it is none");
        String passage = "459:s1.reb9";
        int[] places = {STATE, STATE, STATE, STATE, STATE, STATE, 1, 2, 3, 4, STATE, 5};
        for (int letters = 0; letters <= passage.length(); letters++) {
            WaxInEars x = page(passage.substring(0, letters));
            due("passage() of " + letters + " letters", places[letters], x.passage());
            due("letters then", places[letters] == STATE ? letters : 0, x.count(9));
            due("places then", Math.max(0, places[letters]), x.count(0));
            due("read then", places[letters] == STATE ? 0 : 1, x.count(10));
        }
        due("passage() of a full page", STATE, page("459:s1b2s3b4s5b6s7b8s9b1s2b3..").passage());
        String[] nones = {" 01:.", "001:. ", "00:.", "0001:.", "001.", "001:.~", "001:S1", "001:s10"};
        for (String none : nones) {
            due("passage() of " + none, STATE, page(none).passage());
        }
    }

    private static void needAndNoon() {
        check.begin("terms 1: NEED (00 to 45)");
        for (int need = 0; need <= 99; need++) {
            WaxInEars x = page((need < 10 ? "0" : "") + need + "1:.");
            due("passage(), need " + need, need <= 45 ? 1 : STATE, x.passage());
            due("count(1)", need <= 45 ? need : 0, x.count(1));
        }
        check.begin("terms 1: NOON (1 to 9)");
        for (int noon = 0; noon <= 9; noon++) {
            WaxInEars x = page("45" + noon + ":.");
            due("passage(), noon " + noon, noon > 0 ? 1 : STATE, x.passage());
            due("count(2)", noon, x.count(2));
        }
    }

    private static void onePlaceToTwelve() {
        check.begin("terms 1: one to twelve PLACES");
        for (int places = 0; places <= 13; places++) {
            WaxInEars x = page("001:" + some(places));
            boolean is = places >= 1 && places <= 12;
            due("passage() of " + places, is ? places : STATE, x.passage());
            due("count(0)", is ? places : 0, x.count(0));
        }
        check.begin("5: another one is gone");
        WaxInEars x = on(TWELVE);
        typed(x, "001:r");
        due("passage() of one behind twelve", 1, x.passage());
        due("its place 0", 1, x.place(0, 1));
        due("place 1", UNKNOWN, x.place(1, 0));
        due("place 11", UNKNOWN, x.place(11, 0));
        typed(x, TWELVE);
        due("passage() of twelve behind one", 12, x.passage());
        due("place 0 of these", 0, x.place(0, 1));
        due("place 11 of these", 9, x.place(11, 0));
    }

    private static void strengths() {
        check.begin("terms 1: a SONG of that strength, 1 to 9");
        for (int strength = 0; strength <= 9; strength++) {
            for (String letter : new String[] {"s", "b"}) {
                WaxInEars x = page("001:" + letter + strength);
                due("passage()", strength > 0 ? 1 : STATE, x.passage());
                due("place(0, 0)", strength > 0 ? strength : UNKNOWN, x.place(0, 0));
                due("place(0, 1)", strength == 0 ? UNKNOWN : letter.equals("b") ? 1 : 0, x.place(0, 1));
            }
        }
    }

    private static void placesThere() {
        check.begin("6: UNKNOWN (also without a PASSAGE); OUTSIDE");
        for (int what : new int[] {LEAST, -1, 0, 1, 2, MOST}) {
            due("without a passage", UNKNOWN, new WaxInEars().place(0, what));
            WaxInEars x = on(TWELVE);
            for (int place : new int[] {LEAST, -1, 12, 13, MOST}) {
                due("place(" + place + ", " + what + ")", UNKNOWN, x.place(place, what));
            }
        }
        WaxInEars x = on(TWELVE);
        for (int what : new int[] {LEAST, -1, 2, MOST}) {
            due("place(0, " + what + ")", OUTSIDE, x.place(0, what));
            due("place(11, " + what + ")", OUTSIDE, x.place(11, what));
        }
        due("the first place", 0, x.place(0, 0));
        due("the last place", 9, x.place(11, 0));
        due("its rock", 0, x.place(11, 1));
    }

    // ---- promises 7 to 12: men and strokes

    private static void oars() {
        check.begin("7: OUTSIDE: kind, oar, will");
        for (int kind : new int[] {LEAST, -1, 0, 4, 5, MOST}) {
            for (int oar : new int[] {LEAST, 0, 1, 9, 10, MOST}) {
                for (int will : new int[] {LEAST, -1, 0, 9, 10, MOST}) {
                    boolean is = kind >= 0 && kind <= 4 && oar >= 1 && oar <= 9 && will >= 0 && will <= 9;
                    String call = "man(" + kind + ", " + oar + ", " + will + ")";
                    WaxInEars x = on("001:.");
                    due(call, is ? 0 : OUTSIDE, x.man(kind, oar, will));
                    due(call + ", men", is ? 1 : 0, x.count(3));
                    due(call + " without a passage", is ? STATE : OUTSIDE, new WaxInEars().man(kind, oar, will));
                }
            }
        }
    }

    private static void aSixthMan() {
        check.begin("7: FULL");
        WaxInEars x = on("451:.");
        for (int man = 0; man < 5; man++) {
            due("man", man, x.man(MAN, 9, man));
        }
        due("a sixth", FULL, x.man(MAN, 9, 5));
        due("men", 5, x.count(3));
        due("about the fifth", 4, x.about(4, 2));
        due("about a sixth", UNKNOWN, x.about(5, 2));
        due("a sixth, OUTSIDE comes first", OUTSIDE, x.man(MAN, 10, 5));
        due("five oars of 9", NONE, x.stroke());
        due("a sixth, STATE comes ahead of FULL", STATE, x.man(MAN, 9, 5));
        due("a sixth, OUTSIDE comes ahead of STATE", OUTSIDE, x.man(MAN, 10, 5));
        typed(x, "001:.");
        x.passage();
        due("the first of another passage", 0, x.man(MAN, 9, 0));
    }

    private static void noManLater() {
        check.begin("7: STATE: it is not at PLACE 0 in STROKE 0");
        WaxInEars x = crewOn("019:..", MAN, 1, 0);
        x.image();
        due("a stroke", 1, x.stroke());
        due("at place 1", STATE, x.man(MAN, 1, 0));
        due("at place 1, OUTSIDE comes first", OUTSIDE, x.man(MAN, 0, 0));
        x.restore();
        due("again at place 0 in stroke 0", 1, x.man(MAN, 1, 0));
        x.restore();
        x.bind(0, 1);
        due("a stroke at place 0", 0, x.stroke());
        due("at place 0 in stroke 1", STATE, x.man(MAN, 1, 0));
        due("men", 1, x.count(3));
        WaxInEars over = rowed(crewOn("001:.", MAN, 1, 0), 1);
        due("place 0, over", 0, over.count(5));
        due("at place 0, over", STATE, over.man(MAN, 1, 0));
    }

    private static void holds() {
        check.begin("8: what HOLDS him");
        for (int kind = MAN; kind <= MATE; kind++) {
            for (int will = 0; will <= 9; will++) {
                WaxInEars x = crewOn("001:.", kind, 1, will);
                for (int knots = 0; knots <= 9; knots++) {
                    x.bind(0, knots);
                    due("kind " + kind, will + knots * (kind == MATE ? 3 : 2), x.about(0, 7));
                    due("knots", knots, x.about(0, 4));
                }
            }
        }
        check.begin("8: UNKNOWN; OUTSIDE");
        WaxInEars x = crewOn("001:.", FIVE);
        for (int what : new int[] {LEAST, -1, 0, 7, 8, MOST}) {
            for (int man : new int[] {LEAST, -32, -1, 5, 31, 32, MOST}) {
                due("about(" + man + ", " + what + ")", UNKNOWN, x.about(man, what));
            }
            due("about without men", UNKNOWN, on("001:.").about(0, what));
        }
        for (int what : new int[] {LEAST, -1, 8, MOST}) {
            due("about(0, " + what + ")", OUTSIDE, x.about(0, what));
            due("about(4, " + what + ")", OUTSIDE, x.about(4, what));
        }
    }

    private static void hearing() {
        check.begin("terms 1: it is STROKE NOON or later");
        for (int noon = 1; noon <= 9; noon++) {
            WaxInEars x = waxed(crewOn("45" + noon + ":.", MAN, 1, 0, DEAF, 1, 0, OLD, 1, 0), 0, 1);
            for (int stroke = 0; stroke <= 11; stroke++) {
                String when = "noon " + noon + ", stroke " + stroke;
                due(when, stroke, x.count(6));
                due(when + ", with wax", stroke >= noon ? 1 : 0, x.about(0, 6));
                due(when + ", deaf", 0, x.about(1, 6));
                due(when + ", without wax", 1, x.about(2, 6));
                x.stroke();
            }
        }
        for (int noon = 1; noon <= 9; noon++) {
            WaxInEars x = waxed(crewOn("45" + noon + ":s9", MAN, 1, 8), 0);
            rowed(x, noon);
            due("aboard ahead of stroke " + noon, 0, x.count(4));
            due("the stroke of noon", NONE, x.stroke());
            due("he swims", 1, x.count(4));
            due("strokes", noon + 1, x.count(6));
        }
    }

    private static void kinds() {
        check.begin("9: UNKNOWN; OUTSIDE");
        WaxInEars x = crewOn("001:.", FIVE);
        for (int kind : new int[] {LEAST, -1, 0, 4, 5, MOST}) {
            for (int man : new int[] {LEAST, -1, 5, 32, MOST}) {
                due("as(" + man + ", " + kind + ")", UNKNOWN, x.as(man, kind));
            }
            boolean is = kind >= 0 && kind <= 4;
            due("as(4, " + kind + ")", is ? 4 : OUTSIDE, x.as(4, kind));
            due("as without men", UNKNOWN, on("001:.").as(0, kind));
        }
        check.begin("9: NONE: he is none such");
        WaxInEars lost = rowed(crewOn("009:s9.", SAILOR, 1, 0, MATE, 1, 9), 1);
        due("a lost sailor", 0, lost.as(0, SAILOR));
        due("a lost sailor is no mate", NONE, lost.as(0, MATE));
        due("a mate is a sailor", 1, lost.as(1, SAILOR));
        due("a mate is not old", NONE, lost.as(1, OLD));
        rowed(lost, 1);
        due("a mate, over", 1, lost.as(1, MATE));
    }

    private static void wax() {
        check.begin("10: UNKNOWN; STATE: he is LOST, or it is OVER");
        for (int man : new int[] {LEAST, -1, 5, 32, 36, MOST}) {
            due("wax(" + man + ")", UNKNOWN, crewOn("001:.", FIVE).wax(man, true));
            due("wax(" + man + ") when over", UNKNOWN, rowed(crewOn("001:.", FIVE), 1).wax(man, true));
        }
        due("wax without men", UNKNOWN, on("001:.").wax(0, true));
        due("wax on a new one", UNKNOWN, new WaxInEars().wax(0, false));
        due("the fifth", 0, crewOn("001:.", FIVE).wax(4, true));
        due("one struck", STATE, rowed(crewOn("001:r", DEAF, 1, 0), 1).wax(0, true));
        due("one who swam, drifting", STATE, rowed(crewOn("001:s9", MAN, 1, 0), 1).wax(0, true));
        due("one who is through", STATE, rowed(crewOn("001:.", MAN, 1, 0), 1).wax(0, true));
        WaxInEars soft = rowed(crewOn("451:.", MAN, 1, 0), 3);
        due("wax behind noon", 0, soft.wax(0, true));
        due("he has it", 1, soft.about(0, 3));
        due("he hears", 1, soft.about(0, 6));
    }

    private static void knots() {
        check.begin("11: UNKNOWN; OUTSIDE: knots (0 to 9); STATE");
        for (int knots : new int[] {LEAST, -1, 0, 9, 10, MOST}) {
            boolean is = knots >= 0 && knots <= 9;
            for (int man : new int[] {LEAST, -1, 5, 32, MOST}) {
                due("bind(" + man + ", " + knots + ")", UNKNOWN, crewOn("001:.", FIVE).bind(man, knots));
            }
            WaxInEars x = crewOn("001:.", FIVE);
            due("bind(4, " + knots + ")", is ? 0 : OUTSIDE, x.bind(4, knots));
            due("his knots", is ? knots : 0, x.about(4, 4));
            WaxInEars swam = rowed(crewOn("009:s9.", MAN, 1, 0, MAN, 1, 9), 1);
            due("one who swam", is ? STATE : OUTSIDE, swam.bind(0, knots));
            due("his knots", 0, swam.about(0, 4));
            due("through", is ? STATE : OUTSIDE, rowed(crewOn("001:.", MAN, 1, 0), 1).bind(0, knots));
            due("struck", is ? STATE : OUTSIDE, rowed(crewOn("001:r", DEAF, 1, 0), 1).bind(0, knots));
        }
        due("bind without men", UNKNOWN, on("001:.").bind(0, 10));
    }

    private static void songsAgainstHolds() {
        check.begin("terms 1: whom less HOLDS than its strength");
        for (int strength = 1; strength <= 9; strength++) {
            for (int kind = MAN; kind <= MATE; kind++) {
                for (int will = 0; will <= 9; will++) {
                    for (int knots = 0; knots <= 5; knots++) {
                        WaxInEars x = crewOn("459:s" + strength, kind, 9, will, DEAF, 1, 0);
                        x.bind(0, knots);
                        int pull = kind == OLD ? strength / 2 : strength;
                        boolean swims = kind != DEAF && will + knots * (kind == MATE ? 3 : 2) < pull;
                        x.stroke();
                        due("strength " + strength + ", kind " + kind + ", will " + will + ", knots " + knots,
                            swims ? 1 : 0, x.about(0, 5));
                    }
                }
            }
        }
    }

    private static void oarsAgainstNeed() {
        check.begin("terms 1: NEED together, or more");
        for (int need = 0; need <= 45; need++) {
            String text = (need < 10 ? "0" : "") + need + "9:..";
            due("need " + need + ", five oars of 9", 1, crewOn(text, FIVE).stroke());
            WaxInEars one = crewOn(text, FIVE);
            one.bind(2, 1);
            due("need " + need + ", one bound", need <= 36 ? 1 : 0, one.stroke());
            WaxInEars all = crewOn(text, FIVE);
            for (int man = 0; man < 5; man++) {
                all.bind(man, 1);
            }
            due("need " + need + ", all bound", need == 0 ? 1 : 0, all.stroke());
        }
        for (int oar = 1; oar <= 9; oar++) {
            due("an oar of just need", 1, crewOn("0" + oar + "9:..", MAN, oar, 0).stroke());
            due("an oar of one less", 0, crewOn((oar == 9 ? "10" : "0" + (oar + 1)) + "9:..", MAN, oar, 0).stroke());
        }
    }

    private static void theLastPlace() {
        check.begin("12: the PLACE then; NONE: it is OVER then");
        WaxInEars x = crewOn("009:............", MAN, 1, 0);
        for (int place = 1; place < 12; place++) {
            due("stroke", place, x.stroke());
        }
        due("not over at the last place", UNDER_WAY, x.count(7));
        due("from the last place", NONE, x.stroke());
        due("through", THROUGH, x.count(7));
        due("strokes", 12, x.count(6));
        due("stroke when over", STATE, x.stroke());
        WaxInEars one = crewOn("009:.", MAN, 1, 0);
        due("from the one place", NONE, one.stroke());
        due("through", THROUGH, one.count(7));
        due("no passage", STATE, new WaxInEars().stroke());
        due("a page is no passage", STATE, page("009:.").stroke());
        due("no men", STATE, on("009:.").stroke());
        due("struck", STATE, rowed(crewOn("009:r", DEAF, 1, 0), 1).stroke());
        due("drifting", STATE, rowed(crewOn("009:s9", MAN, 1, 0), 1).stroke());
    }

    private static void rocks() {
        check.begin("terms 1: it is STRUCK, if nobody aboard HEARS");
        for (int men = 1; men <= 5; men++) {
            for (int hearing = 0; hearing <= men; hearing++) {
                WaxInEars x = on("009:r");
                for (int man = 0; man < men; man++) {
                    x.man(MAN, 1, 0);
                    x.wax(man, man < men - hearing);
                }
                x.stroke();
                due(hearing + " of " + men + " hear", hearing == 0 ? STRUCK : THROUGH, x.count(7));
                due("lost", hearing == 0 ? men : 0, x.count(4));
            }
        }
        check.begin("terms 1: if no SAILOR is aboard who is not BOUND");
        for (int kind = MAN; kind <= MATE; kind++) {
            for (int knots = 0; knots <= 9; knots += 9) {
                WaxInEars x = crewOn("009:e", DEAF, 1, 0, kind, 1, 0);
                x.bind(1, knots);
                x.stroke();
                due("kind " + kind + ", knots " + knots, kind >= SAILOR && knots == 0 ? THROUGH : STRUCK, x.count(7));
            }
        }
        WaxInEars swam = crewOn("009:s5e", SAILOR, 1, 4, MAN, 1, 5);
        due("the sailor swims", 1, swam.stroke());
        due("none sees", NONE, swam.stroke());
        due("struck", STRUCK, swam.count(7));
        check.begin("terms 1: else, if OARS are NEED");
        due("the rock is passed, the oars do not do", 0, crewOn("459:r", MAN, 1, 0).stroke());
    }

    // ---- promises 13 to 17: what would be

    private static void thirtyStrokes() {
        check.begin("13: 30 STROKES from now on at most");
        WaxInEars x = crewOn("459:s5", MAN, 1, 5, DEAF, 1, 0);
        for (int stroke = 0; stroke < 40; stroke++) {
            outcome(x, 0, 30, UNDER_WAY);
            x.stroke();
        }
        due("strokes", 40, x.count(6));
        WaxInEars soft = waxed(crewOn("459:s5", MAN, 1, 0), 0);
        for (int stroke = 0; stroke <= 9; stroke++) {
            outcome(soft, 1, 10 - stroke, DRIFTING);
            soft.stroke();
        }
        due("over", STATE, soft.outcome(0));
        WaxInEars twelve = crewOn("009:" + some(12), FIVE);
        for (int place = 0; place < 12; place++) {
            outcome(twelve, 0, 12 - place, THROUGH);
            twelve.stroke();
        }
        check.begin("13: those LOST now, too");
        WaxInEars lost = crewOn("459:s5", MAN, 1, 0, DEAF, 1, 0);
        outcome(lost, 1, 30, UNDER_WAY);
        lost.stroke();
        outcome(lost, 1, 30, UNDER_WAY);
        check.begin("13: OUTSIDE; STATE");
        for (int what : new int[] {LEAST, -1, 3, MOST}) {
            due("outcome(" + what + ")", OUTSIDE, lost.outcome(what));
            due("outcome(" + what + ") on a new one", OUTSIDE, new WaxInEars().outcome(what));
        }
        due("outcome(0) without men", STATE, on("001:.").outcome(0));
        due("outcome(0) drifting", STATE, rowed(crewOn("001:s9", MAN, 1, 0), 1).outcome(0));
    }

    private static void piecesOfWax() {
        check.begin("14: so many pieces (0 to 5)");
        WaxInEars x = crewOn("009:s5", MAN, 1, 0, MAN, 1, 0, MAN, 1, 0, MAN, 1, 0, MAN, 1, 0);
        for (int pieces = 0; pieces <= 5; pieces++) {
            waxing(x, pieces, 5 - pieces, (1 << pieces) - 1);
        }
        waxed(x, 0, 1, 2, 3, 4);
        due("with wax now", 0, x.outcome(0));
        waxing(x, 0, 5, 0);
        waxing(x, 4, 1, 15);
        for (int odd : new int[] {LEAST, -1, 6, MOST}) {
            due("waxing(" + odd + ", 0)", OUTSIDE, x.waxing(odd, 0));
            due("waxing(" + odd + ", 0) on a new one", OUTSIDE, new WaxInEars().waxing(odd, 0));
        }
        for (int odd : new int[] {LEAST, -1, 2, MOST}) {
            due("waxing(0, " + odd + ")", OUTSIDE, x.waxing(0, odd));
            due("waxing(0, " + odd + ") on a new one", OUTSIDE, new WaxInEars().waxing(0, odd));
        }
        check.begin("14: more pieces than men");
        waxing(crewOn("009:s5", MAN, 1, 0), 5, 0, 1);
        waxing(crewOn("009:s5", MAN, 1, 0), 2, 0, 1);
        check.begin("14: to whom aboard");
        WaxInEars lost = rowed(waxed(crewOn("019:s5s5", MAN, 1, 0, MAN, 1, 0, MAN, 1, 0), 1, 2), 1);
        waxing(lost, 0, 3, 0);
        waxing(lost, 1, 2, 2);
        waxing(lost, 2, 1, 6);
        waxing(lost, 5, 1, 6);
    }

    private static void ofLikeWaxings() {
        check.begin("14: of like ones the fewest pieces");
        waxing(crewOn("009:s5", MAN, 1, 5, MAN, 1, 9), 5, 0, 0);
        waxing(crewOn("009:s5", MAN, 1, 5, MAN, 1, 0), 5, 0, 2);
        // Two of oars 2 and 5 with wax come past the first song, or three of 1, 1 and 5; the one of 5 holds the next.
        waxing(crewOn("071:s9s6", MAN, 1, 0, MAN, 1, 0, MAN, 2, 0, MAN, 5, 7), 2, 3, 12);
        waxing(crewOn("071:s9s6", MAN, 1, 0, MAN, 1, 0, MAN, 2, 0, MAN, 5, 7), 5, 3, 12);
        check.begin("14: then the least bits");
        waxing(crewOn("071:s9s6", MAN, 1, 0, MAN, 1, 0, MAN, 2, 0, MAN, 5, 7, MAN, 2, 0), 5, 4, 12);
        waxing(crewOn("009:s5", DEAF, 1, 0, MAN, 1, 0, MAN, 1, 0, MAN, 1, 0), 1, 2, 2);
        check.begin("14: THROUGH with fewest LOST, else whatever else with fewest");
        // Without wax one is lost and it stays; with wax for him it is through with two lost.
        WaxInEars x = crewOn("059:s5s9", MAN, 5, 0, MAN, 1, 0, MAN, 1, 0);
        x.bind(1, 3);
        x.bind(2, 3);
        waxing(x, 1, 2, 1);
        // With wax for the one of oar 5 it comes on, and is struck; without it stays, with one lost.
        waxing(crewOn("059:s5e", MAN, 5, 0, DEAF, 1, 0), 5, 1, 0);
        waxing(crewOn("459:r", DEAF, 1, 0), 5, 1, 0);
        // Struck with all lost, or drifting with all lost: like ones.
        waxing(crewOn("459:b9", MAN, 1, 0), 5, 1, 0);
    }

    private static void leastKnots() {
        check.begin("15: the least number of KNOTS (0 to 9)");
        for (int strength = 1; strength <= 9; strength++) {
            for (int will = 0; will <= 9; will++) {
                int lacking = Math.max(0, strength - will);
                due("man", (lacking + 1) / 2, crewOn("459:s" + strength, MAN, 1, will).hold(0));
                due("mate", (lacking + 2) / 3, crewOn("459:s" + strength, MATE, 1, will).hold(0));
                int lackingOld = Math.max(0, strength / 2 - will);
                due("old", (lackingOld + 1) / 2, crewOn("459:s" + strength, OLD, 1, will).hold(0));
                due("deaf", 0, crewOn("459:s" + strength, DEAF, 1, will).hold(0));
            }
        }
        check.begin("15: none");
        due("nobody hears", NONE, crewOn("459:r", DEAF, 1, 0).hold(0));
        due("nobody sees", NONE, crewOn("459:e", MAN, 1, 0).hold(0));
        check.begin("15: all else as it is");
        WaxInEars soft = waxed(crewOn("453:s9", MAN, 1, 0), 0);
        due("wax till noon", 5, soft.hold(0));
        soft.bind(0, 4);
        due("his knots now", 5, soft.hold(0));
        soft.bind(0, 9);
        due("his knots now", 5, soft.hold(0));
        WaxInEars other = crewOn("459:s9r", MAN, 1, 0, MAN, 1, 9);
        other.bind(1, 2);
        due("another one's knots", 5, other.hold(0));
        due("another one's knots stay", 2, other.about(1, 4));
        check.begin("15: UNKNOWN; STATE, or he is LOST");
        for (int man : new int[] {LEAST, -1, 5, 32, MOST}) {
            due("hold(" + man + ")", UNKNOWN, crewOn("001:.", FIVE).hold(man));
            due("hold(" + man + ") when over", UNKNOWN, rowed(crewOn("001:.", FIVE), 1).hold(man));
        }
        due("hold without men", UNKNOWN, on("001:.").hold(0));
        WaxInEars lost = rowed(crewOn("009:s5.", MAN, 1, 0, MAN, 1, 5), 1);
        due("a lost one", STATE, lost.hold(0));
        due("one aboard", 0, lost.hold(1));
        rowed(lost, 1);
        due("when over", STATE, lost.hold(1));
    }

    private static void whoListens() {
        check.begin("16: of like ones the least");
        due("alone", 0, crewOn("451:.", MAN, 1, 0).listener());
        due("five alike", 0, crewOn("459:.", FIVE).listener());
        WaxInEars lost = rowed(waxed(crewOn("459:s5.", MAN, 1, 0, MAN, 1, 0, MAN, 1, 0), 1, 2), 1);
        due("the first is lost", 1, lost.listener());
        check.begin("16: so that it is best by OUTCOME");
        for (int best = 0; best < 5; best++) {
            WaxInEars x = on("049:r");
            for (int man = 0; man < 5; man++) {
                x.man(man == best ? MAN : DEAF, 1, 0);
            }
            due("the only one who hears", best, x.listener());
        }
        // The weakest oar may be spared: through. With another one bound it stays, with none lost.
        for (int best = 0; best < 5; best++) {
            WaxInEars x = on("369:.");
            for (int man = 0; man < 5; man++) {
                x.man(MAN, man == best ? 8 : 9, 0);
            }
            due("the weakest oar", best, x.listener());
        }
        check.begin("16: BOUND with 9 KNOTS, without WAX, all others having WAX and no KNOTS");
        due("9 knots hold him", 0, crewOn("009:b9", MAN, 1, 0, DEAF, 1, 0).listener());
        WaxInEars x = waxed(crewOn("019:b9", DEAF, 1, 0, MAN, 1, 0), 1);
        x.bind(0, 9);
        due("wax and knots now are nothing to it", 1, x.listener());
        due("nor are they changed", 9, x.about(0, 4));
        due("nor is his wax", 1, x.about(1, 3));
        check.begin("16: STATE");
        due("new", STATE, new WaxInEars().listener());
        due("no men", STATE, on("001:.").listener());
        due("through", STATE, rowed(crewOn("001:.", MAN, 1, 0), 1).listener());
        due("struck", STATE, rowed(crewOn("001:r", DEAF, 1, 0), 1).listener());
        due("drifting", STATE, rowed(crewOn("001:s9", MAN, 1, 0), 1).listener());
    }

    private static void lessStrength() {
        check.begin("17: by how much less strength (0 to 9)");
        for (int strength = 1; strength <= 9; strength++) {
            for (int will = 0; will <= 9; will++) {
                due("man", Math.max(0, strength - will), crewOn("459:s" + strength, MAN, 1, will).sold());
                int old = strength / 2 <= will ? 0 : strength - 2 * will - 1;
                due("old, strength " + strength + ", will " + will, old,
                    crewOn("459:b" + strength, OLD, 1, will).sold());
            }
        }
        check.begin("17: of each SONG (0 at least)");
        due("strengths 1, 9", 9, crewOn("019:s1s9s1", MAN, 1, 0).sold());
        due("strengths 9, 1", 9, crewOn("019:s9s1", MAN, 1, 0).sold());
        WaxInEars past = waxed(crewOn("019:s9s4", MAN, 1, 0, MAN, 1, 1), 0, 1);
        past.stroke();
        past.wax(0, false);
        due("a song behind is nothing to it", 4, past.sold());
        due("songs stay as they are", 9, past.place(0, 0));
        due("songs stay as they are", 4, past.place(1, 0));
        check.begin("17: nobody aboard now");
        WaxInEars lost = rowed(crewOn("459:s5", MAN, 1, 4, MAN, 1, 5), 1);
        due("one is lost already", 0, lost.sold());
        check.begin("17: none");
        due("a rock that rings", NONE, crewOn("019:r", DEAF, 1, 0).sold());
        due("a rock that is seen", NONE, crewOn("019:s5e", MAN, 1, 0).sold());
        check.begin("17: STATE");
        due("new", STATE, new WaxInEars().sold());
        due("no men", STATE, on("001:.").sold());
        due("through", STATE, rowed(crewOn("001:.", MAN, 1, 0), 1).sold());
        due("struck", STATE, rowed(crewOn("001:r", DEAF, 1, 0), 1).sold());
        due("drifting", STATE, rowed(crewOn("001:s9", MAN, 1, 0), 1).sold());
    }

    // ---- promises 18 to 22: a log and voyages

    private static void eightTold() {
        check.begin("18: OUTSIDE: set (bits of MEN)");
        for (int men = 0; men <= 5; men++) {
            WaxInEars x = crewOn("001:.", java.util.Arrays.copyOf(FIVE, 3 * men));
            due("men", men, x.count(3));
            due("all " + men, 1, x.log((1 << men) - 1));
            due("none of " + men, 2, x.log(0));
            for (int set : new int[] {LEAST, -1, 1 << men, 32, MOST}) {
                due("log(" + set + ") with " + men + " men", OUTSIDE, x.log(set));
            }
            due("count(8)", 2, x.count(8));
        }
        check.begin("18: FULL");
        WaxInEars x = crewOn("001:.", MAN, 1, 0);
        for (int told = 1; told <= 8; told++) {
            due("log", told, x.log(1));
        }
        due("a ninth", FULL, x.log(1));
        due("a ninth, OUTSIDE comes first", OUTSIDE, x.log(2));
        due("count(8)", 8, x.count(8));
        check.begin("19: how many STROKES it had");
        due("forget", 8, x.forget());
        due("forget an empty one", 0, x.forget());
        due("log", 1, x.log(1));
        due("forget one", 1, x.forget());
        due("forget on a new one", 0, new WaxInEars().forget());
        WaxInEars unread = new WaxInEars();
        for (int told = 1; told <= 8; told++) {
            due("log(0) without a passage", told, unread.log(0));
        }
        due("a ninth without a passage", FULL, unread.log(0));
        typed(unread, "001:.");
        unread.passage();
        due("a passage empties the log", 0, unread.count(8));
        WaxInEars later = crewOn("001:.", MAN, 1, 0);
        due("of two, one aboard", OUTSIDE, later.log(2));
        later.man(MAN, 1, 0);
        due("of two, both aboard", 1, later.log(2));
    }

    private static void theEighthFits() {
        check.begin("20: of STROKES from 0 on (8 at most)");
        for (int last = 0; last <= 1; last++) {
            WaxInEars x = told(crewOn("009:.......s5.", MAN, 1, 0), 0, 0, 0, 0, 0, 0, 0, last);
            due("the eighth tells who had wax", 1, x.fits());
            due("sure", 1 - last, x.sure(0));
            due("nothing is changed", 0, x.count(6));
        }
        for (int first = 0; first <= 1; first++) {
            WaxInEars x = told(crewOn("009:s5.", MAN, 1, 0, DEAF, 9, 9), first);
            due("the first tells who had wax", 2, x.fits());
            due("sure", 1 - first, x.sure(0));
            due("not sure", NONE, x.sure(1));
        }
    }

    private static void nobodySwimsWhenOver() {
        check.begin("20: a voyage that is OVER goes on in no STROKE");
        String[] ends = {"009:s5", "009:b5", "459:s5"};
        for (String text : ends) {
            WaxInEars x = told(crewOn(text, MAN, 1, 0), 1);
            due(text + ", he swam", 1, x.fits());
            for (int told = 2; told <= 8; told++) {
                x.log(0);
                due(text + ", nobody swims any more", 1, x.fits());
            }
            x.forget();
            told(x, 1, 1);
            due(text + ", nobody swims twice", 0, x.fits());
        }
        WaxInEars through = told(crewOn("009:.s5", MAN, 1, 0, MAN, 1, 9), 0, 0, 0, 0);
        due("with wax it is through", 2, through.fits());
        WaxInEars struck = told(crewOn("009:r", MAN, 1, 0), 0, 0);
        due("with wax it is struck, nobody swims", 2, struck.fits());
        struck.log(1);
        due("nobody swims who is struck", 0, struck.fits());
    }

    private static void allSetsOrNone() {
        check.begin("20: by how many sets");
        for (int men = 1; men <= 5; men++) {
            WaxInEars x = crewOn("001:.", java.util.Arrays.copyOf(FIVE, 3 * men));
            due("an empty log, " + men + " men", 1 << men, x.fits());
            for (int man = 0; man < men; man++) {
                due("an empty log, sure(" + man + ")", NONE, x.sure(man));
            }
            x.log(1);
            due("none", 0, x.fits());
            for (int man = 0; man < men; man++) {
                due("no such sets, sure(" + man + ")", NONE, x.sure(man));
            }
        }
        check.begin("20: STATE: no PASSAGE, or no MEN");
        due("new", STATE, new WaxInEars().fits());
        due("a page alone", STATE, page("001:.").fits());
        due("no men", STATE, on("001:.").fits());
        due("over", 2, rowed(crewOn("001:.", MAN, 1, 0), 1).fits());
        check.begin("20: all with KNOTS as now");
        WaxInEars x = crewOn("009:s9", MAN, 1, 0);
        told(x, 0);
        x.bind(0, 4);
        due("4 knots", 1, x.fits());
        x.bind(0, 5);
        due("5 knots", 2, x.fits());
        check.begin("21: UNKNOWN");
        for (int man : new int[] {LEAST, -1, 5, 31, 32, MOST}) {
            due("sure(" + man + ")", UNKNOWN, crewOn("001:.", FIVE).sure(man));
        }
        due("sure without men", UNKNOWN, on("001:.").sure(0));
        check.begin("21: 1 he had WAX in all, 0 in none");
        WaxInEars all = crewOn("019:s9.", MAN, 1, 0, MAN, 1, 0, MAN, 1, 0, MAN, 1, 0, MAN, 1, 0);
        for (int swam = 0; swam < 32; swam++) {
            all.forget();
            all.log(swam);
            due("one set", 1, all.fits());
            for (int man = 0; man < 5; man++) {
                due("sure(" + man + ") by " + swam, 1 - (swam >> man & 1), all.sure(man));
            }
        }
    }

    private static void voyagesAndSeeds() {
        check.begin("22: OUTSIDE: voyages (1 to 20), seed (0 at least), what; STATE");
        for (int voyages : new int[] {LEAST, -1, 0, 1, 20, 21, MOST}) {
            for (int seed : new int[] {LEAST, -1, 0, MOST}) {
                for (int what : new int[] {LEAST, -1, 0, 2, 3, MOST}) {
                    boolean is = voyages >= 1 && voyages <= 20 && seed >= 0 && what >= 0 && what <= 2;
                    String call = "voyages(" + voyages + ", " + seed + ", " + what + ")";
                    int want = what == 0 ? voyages : seed;
                    due(call, is ? want : OUTSIDE, crewOn("001:.", MAN, 1, 0).voyages(voyages, seed, what));
                    due(call + ", no passage", is ? STATE : OUTSIDE, new WaxInEars().voyages(voyages, seed, what));
                    due(call + ", no men", is ? STATE : OUTSIDE, on("001:.").voyages(voyages, seed, what));
                }
            }
        }
        check.begin("22: its rest by 2 to the 31");
        WaxInEars x = crewOn("009:" + "s1".repeat(12), DEAF, 1, 0);
        for (int seed : new int[] {0, 1, 2, 12345, 1073741823, 1073741824, MOST - 1, MOST}) {
            for (int voyages : new int[] {1, 2, 20}) {
                due("voyages(" + voyages + ", " + seed + ", 2)", seedAfter(seed, 12 * voyages),
                    x.voyages(voyages, seed, 2));
                due("through", voyages, x.voyages(voyages, seed, 0));
                due("lost", 0, x.voyages(voyages, seed, 1));
            }
        }
        check.begin("22: first, by PLACES, each SONG has a strength by a DRAW");
        due("a song that is not reached is drawn, too", seedAfter(9, 6),
            crewOn("009:rs1b2", DEAF, 1, 0).voyages(3, 9, 2));
        check.begin("22: 30 STROKES at most");
        WaxInEars stays = crewOn("459:s9", MAN, 1, 9, DEAF, 1, 0);
        due("through", 0, stays.voyages(20, 5, 0));
        due("lost", 0, stays.voyages(20, 5, 1));
        check.begin("22: how many MEN were LOST together");
        WaxInEars struck = crewOn("009:r", DEAF, 1, 0, DEAF, 1, 0, DEAF, 1, 0, DEAF, 1, 0, DEAF, 1, 0);
        due("five in each", 100, struck.voyages(20, 5, 1));
        due("five in one", 5, struck.voyages(1, 5, 1));
        due("none is through", 0, struck.voyages(20, 5, 0));
        struck.stroke();
        due("from place 0, all aboard, when over", 100, struck.voyages(20, 5, 1));
    }

    private static void strengthsDrawn() {
        check.begin("22: a DRAW of 10 (0: none is heard)");
        boolean[] drawn = new boolean[10];
        for (int will = 0; will <= 9; will++) {
            WaxInEars x = crewOn("009:s9", MAN, 1, will);
            for (int seed = 0; seed < 100; seed++) {
                int strength = seedAfter(seed, 1) / 65536 % 10;
                drawn[strength] = true;
                due("seed " + seed + ", will " + will + ", lost", strength > will ? 1 : 0, x.voyages(1, seed, 1));
                due("seed " + seed + ", will " + will + ", through", strength > will ? 0 : 1, x.voyages(1, seed, 0));
            }
        }
        for (int strength = 0; strength <= 9; strength++) {
            due("a strength of " + strength + " was drawn", 1, drawn[strength] ? 1 : 0);
        }
        check.begin("22: an old one hears one half of it");
        WaxInEars old = crewOn("009:b1", OLD, 1, 2);
        for (int seed = 0; seed < 100; seed++) {
            due("seed " + seed, seedAfter(seed, 1) / 65536 % 10 / 2 > 2 ? 1 : 0, old.voyages(1, seed, 1));
        }
    }

    // ---- promises 23 to 26: what is told of all

    private static void imageAndRestore() {
        check.begin("23: STATE: no PASSAGE");
        due("new", STATE, new WaxInEars().image());
        due("a page alone", STATE, page("001:.").image());
        due("no men", 0, on("001:.").image());
        check.begin("24: STATE: none was kept, or there is another PASSAGE since");
        due("new", STATE, new WaxInEars().restore());
        due("none was kept", STATE, crewOn("001:.", MAN, 1, 0).restore());
        WaxInEars x = crewOn("451:.", MAN, 1, 0);
        x.image();
        typed(x, "451:.");
        due("the same passage once more", 1, x.passage());
        due("restore", STATE, x.restore());
        due("image", 0, x.image());
        due("restore", 0, x.restore());
        check.begin("24: how many MEN there are (those that come since are gone)");
        WaxInEars none = on("009:s9");
        none.image();
        for (int round = 0; round < 3; round++) {
            for (int man = 0; man < 5; man++) {
                due("man", man, none.man(MAN, 9, 9));
                due("knots at first", 0, none.bind(man, 9));
                due("wax at first", 0, none.wax(man, true));
            }
            due("a sixth", FULL, none.man(MAN, 9, 9));
            none.stroke();
            due("over", STATE, none.stroke());
            due("restore", 0, none.restore());
            counts("restored", none, 1, 0, 9, 0, 0, 0, 0, 0, 0, 0, 1);
        }
        WaxInEars full = crewOn("009:s9", FIVE);
        full.image();
        rowed(full, 1);
        due("restore", 0, full.restore());
        due("five", 5, full.count(3));
        due("a sixth", FULL, full.man(MAN, 1, 1));
        check.begin("24: the LOG");
        WaxInEars log = told(crewOn("001:.", MAN, 1, 0), 0, 0, 0, 0, 0, 0, 0, 0);
        log.image();
        log.forget();
        log.log(1);
        log.restore();
        due("eight", 8, log.count(8));
        due("a ninth", FULL, log.log(0));
        due("the first as it was", 2, log.fits());
        log.forget();
        log.image();
        log.log(1);
        log.restore();
        due("an empty one", 0, log.count(8));
        check.begin("24: whether it is OVER, and how");
        String[] texts = {"009:.", "009:r", "009:s9", "459:."};
        int[] hows = {THROUGH, STRUCK, DRIFTING, UNDER_WAY};
        for (int i = 0; i < texts.length; i++) {
            WaxInEars ends = crewOn(texts[i], i == 1 ? DEAF : MAN, 1, 0);
            ends.stroke();
            due("image", 1, ends.image());
            ends.stroke();
            due("restore", 1, ends.restore());
            due("how", hows[i], ends.count(7));
            due("lost", hows[i] == STRUCK || hows[i] == DRIFTING ? 1 : 0, ends.count(4));
            due("stroke", hows[i] == UNDER_WAY ? 0 : STATE, ends.stroke());
        }
    }

    private static void counts() {
        check.begin("25: OUTSIDE");
        for (int what : new int[] {LEAST, -1, 11, 12, MOST}) {
            due("count(" + what + ")", OUTSIDE, crewOn("001:.", FIVE).count(what));
            due("count(" + what + ") of a new one", OUTSIDE, new WaxInEars().count(what));
        }
        check.begin("25: of most");
        WaxInEars x = crewOn("459:" + some(11) + "r", DEAF, 9, 0, DEAF, 9, 0, DEAF, 9, 0, DEAF, 9, 0, DEAF, 9, 0);
        told(x, 0, 0, 0, 0, 0, 0, 0, 0);
        rowed(x, 12);
        typed(x, some(30));
        counts("struck at the last place", x, 12, 45, 9, 5, 5, 11, 12, STRUCK, 8, 30, 1);
        check.begin("25: of least");
        counts("no men", on("001:."), 1, 0, 1, 0, 0, 0, 0, UNDER_WAY, 0, 0, 1);
        check.begin("25: how often a PASSAGE was read");
        WaxInEars read = new WaxInEars();
        for (int times = 1; times <= 60; times++) {
            typed(read, "001:.");
            read.passage();
            due("count(10)", times, read.count(10));
            due("an empty page is none", STATE, read.passage());
        }
        due("count(10)", 60, read.count(10));
    }

    /** The document's sum, by numbers without an end, cut to a long at last. */
    private static long wrapped(List<Integer> numbers) {
        BigInteger h = BigInteger.valueOf(757);
        for (int number : numbers) {
            h = h.multiply(BigInteger.valueOf(31)).add(BigInteger.valueOf(number));
        }
        return h.longValue();
    }

    private static void digest(String when, WaxInEars x, String letters) {
        List<Integer> numbers = new ArrayList<>();
        for (int place = 0; place < x.count(0); place++) {
            numbers.addAll(List.of(x.place(place, 0), x.place(place, 1)));
        }
        for (int man = 0; man < x.count(3); man++) {
            for (int what = 0; what <= 7; what++) {
                numbers.add(x.about(man, what));
            }
        }
        if (x.count(0) > 0 && x.count(3) > 0 && x.count(7) == UNDER_WAY) {
            numbers.addAll(List.of(x.outcome(0), x.outcome(1), x.outcome(2)));
            numbers.addAll(List.of(x.waxing(2, 0), x.waxing(2, 1), x.listener(), x.sold()));
        }
        if (x.count(0) > 0 && x.count(3) > 0) {
            numbers.add(x.fits());
        }
        letters.chars().forEach(numbers::add);
        for (int what = 0; what <= 10; what++) {
            numbers.add(x.count(what));
        }
        due(when, wrapped(numbers), x.digest());
        due(when + ", once more", wrapped(numbers), x.digest());
    }

    private static void digests() {
        check.begin("26: as longs, wrapping");
        digest("new", new WaxInEars(), "");
        digest("letters", page(" ~"), " ~");
        digest("a full page", page("~".repeat(30)), "~".repeat(30));
        digest("no men", on(TWELVE), "");
        digest("no men, letters", typed(on(TWELVE), "451"), "451");
        WaxInEars most = told(crewOn("459:" + "b9".repeat(12), FIVE), 31, 0, 0, 0, 0, 0, 0, 0);
        digest("of most", typed(most, "~".repeat(30)), "~".repeat(30));
        digest("none holds by less strength: NONE", crewOn("009:rr", DEAF, 1, 0), "");
        digest("no set fits", told(crewOn("009:..", DEAF, 1, 0), 1), "");
        digest("one lost", rowed(crewOn("009:s5..", MAN, 1, 0, MATE, 1, 9), 1), "");
        digest("through", rowed(crewOn("009:.", MATE, 1, 0), 1), "");
        digest("struck", rowed(crewOn("009:r", DEAF, 1, 0), 1), "");
        digest("drifting", rowed(crewOn("009:s9", MAN, 1, 0), 1), "");
        digest("behind noon", rowed(waxed(crewOn("451:.", MAN, 1, 0), 0), 5), "");
    }

    private static void theLastCall() {
        check.begin("at most 512 calls");
        ToIntFunction<WaxInEars> calls = x -> x.letter('0') + x.blank();
        WaxInEars x = crewOn("459:s5", MAN, 1, 0, DEAF, 1, 0);
        for (int call = 8; call < 508; call += 2) {
            calls.applyAsInt(x);
        }
        due("call 509", 0, x.stroke());
        due("call 510", 1, x.count(4));
        due("call 511", 1, x.letter('4'));
        due("call 512", 30, x.outcome(1));
    }
}
