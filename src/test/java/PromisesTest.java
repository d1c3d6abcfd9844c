/** For each promise of the document: ordinary inputs, the edges that it names, wrong inputs. */
public final class PromisesTest extends Given {
    public static void main(String[] args) {
        constants();
        promise1();
        promise2();
        promise3();
        promise4();
        promise5();
        promise6();
        promise7();
        promise8();
        promise9();
        promise10();
        promise11();
        promise12();
        promise12Songs();
        promise12Rocks();
        promise12Ends();
        promise13();
        promise14();
        promise15();
        promise16();
        promise17();
        promise18();
        promise19();
        promise20();
        promise21();
        promise22();
        promise23();
        promise24();
        promise25();
        promise26();
        check.end();
    }

    private static void constants() {
        check.begin("constants");
        due("NONE", NONE, WaxInEars.NONE);
        due("UNKNOWN", UNKNOWN, WaxInEars.UNKNOWN);
        due("OUTSIDE", OUTSIDE, WaxInEars.OUTSIDE);
        due("STATE", STATE, WaxInEars.STATE);
        due("FULL", FULL, WaxInEars.FULL);
    }

    private static void promise1() {
        check.begin("promise 1");
        WaxInEars x = new WaxInEars();
        counts("new", x, 0, 0, 0, 0, 0, 0, 0, 0, 0, 0, 0);
        due("place(0, 0)", UNKNOWN, x.place(0, 0));
        due("man", STATE, x.man(MAN, 1, 1));
        due("stroke", STATE, x.stroke());
        due("outcome", STATE, x.outcome(0));
        due("waxing", STATE, x.waxing(1, 0));
        due("hold", UNKNOWN, x.hold(0));
        due("listener", STATE, x.listener());
        due("sold", STATE, x.sold());
        due("fits", STATE, x.fits());
        due("sure", UNKNOWN, x.sure(0));
        due("voyages", STATE, x.voyages(1, 1, 0));
        due("image", STATE, x.image());
        due("restore", STATE, x.restore());
        due("digest", digestOf(0, 0, 0, 0, 0, 0, 0, 0, 0, 0, 0), x.digest());
    }

    private static void promise2() {
        check.begin("promise 2");
        WaxInEars x = new WaxInEars();
        due("letter(31)", OUTSIDE, x.letter(31));
        due("letter(127)", OUTSIDE, x.letter(127));
        due("letter(-1)", OUTSIDE, x.letter(-1));
        due("letter(min)", OUTSIDE, x.letter(Integer.MIN_VALUE));
        due("letter(max)", OUTSIDE, x.letter(Integer.MAX_VALUE));
        due("letter(32)", 1, x.letter(32));
        due("letter(126)", 2, x.letter(126));
        for (int had = 2; had < 30; had++) {
            due("letter('.')", had + 1, x.letter('.'));
        }
        due("letter 31", FULL, x.letter('.'));
        due("letter(127) on a full page", OUTSIDE, x.letter(127));
        due("count(9)", 30, x.count(9));
    }

    private static void promise3() {
        check.begin("promise 3");
        WaxInEars x = page("ab");
        due("blank", 2, x.blank());
        due("blank again", 0, x.blank());
        due("count(9)", 0, x.count(9));
        due("letter", 1, x.letter('0'));
        due("new blank", 0, new WaxInEars().blank());
        WaxInEars full = page("..............................");
        due("blank of 30", 30, full.blank());
        due("letter behind it", 1, full.letter('.'));
    }

    private static void fault(int want, String text) {
        due("fault of " + text, want, page(text).fault());
    }

    private static void promise4() {
        check.begin("promise 4");
        fault(0, "");
        fault(1, "4");
        fault(0, "5");
        fault(0, ":");
        fault(0, "/");
        fault(1, "4:");
        fault(1, "46");
        fault(2, "45");
        fault(2, "39");
        fault(1, "3/");
        fault(1, "3:");
        fault(2, "450");
        fault(2, "45:");
        fault(3, "459");
        fault(3, "451");
        fault(3, "4599");
        fault(4, "459:");
        fault(4, "459:x");
        fault(4, "459:5");
        fault(4, "459: ");
        fault(5, "459:s");
        fault(5, "459:s0");
        fault(5, "459:s:");
        fault(5, "459:ss");
        fault(6, "459:s1");
        fault(5, "459:b0");
        fault(6, "459:b9");
        fault(6, "459:b99");
        fault(5, "459:r1");
        fault(5, "459:e1");
        fault(5, "459:.1");
        fault(8, "459:.re.");
        fault(28, "459:s1s2s3s4s5s6b7b8b9b1b2b3");
        fault(28, "459:s1s2s3s4s5s6b7b8b9b1b2b3.");
        fault(27, "459:s1s2s3s4s5s6b7b8b9b1b2b");
        fault(27, "459:s1s2s3s4s5s6b7b8b9b1b2b0");
        fault(16, "001:............");
        fault(3, "001............");
        fault(2, "000:.");
        fault(16, "001:............r");
        fault(0, "e");
    }

    private static void notRead(String text) {
        WaxInEars x = page(text);
        due("passage of " + text, STATE, x.passage());
        due("letters of it", text.length(), x.count(9));
        due("places of it", 0, x.count(0));
        due("times read", 0, x.count(10));
    }

    private static void promise5() {
        check.begin("promise 5");
        notRead("");
        notRead("459");
        notRead("459:");
        notRead("459:s");
        notRead("459:.b");
        notRead("469:.");
        notRead("450:.");
        notRead("459:.x");
        notRead("459:s0");
        notRead("001:.............");
        WaxInEars x = page("459:s1.reb9");
        due("passage", 5, x.passage());
        counts("read", x, 5, 45, 9, 0, 0, 0, 0, 0, 0, 0, 1);
        due("passage on an empty page", STATE, x.passage());
        due("count(10)", 1, x.count(10));
        WaxInEars most = page("071:s1s2s3s4s5s6b7b8b9b1b2b3");
        due("passage of 12", 12, most.passage());
        counts("of 12", most, 12, 7, 1);

        x.man(MAN, 9, 0);
        x.man(MAN, 9, 9);
        x.bind(1, 3);
        x.wax(1, true);
        x.log(1);
        x.stroke();
        x.image();
        typed(x, "x");
        due("a page that is none", STATE, x.passage());
        due("men stay", 2, x.count(3));
        x.blank();
        typed(x, "001:.r");
        due("another passage", 2, x.passage());
        counts("another", x, 2, 0, 1, 0, 0, 0, 0, 0, 0, 0, 2);
        due("its place", 0, x.place(0, 0));
        due("gone place", UNKNOWN, x.place(2, 0));
        due("gone man", UNKNOWN, x.about(0, 0));
        due("man", 0, x.man(MAN, 1, 0));
        due("next man", 1, x.man(MAN, 1, 0));
        due("no knots of a gone one", 0, x.about(1, 4));
        due("no wax of a gone one", 0, x.about(1, 3));
        due("not lost", 0, x.about(0, 5));
    }

    private static void promise6() {
        check.begin("promise 6");
        WaxInEars x = new WaxInEars();
        due("without a passage", UNKNOWN, x.place(0, 0));
        due("without a passage, what", UNKNOWN, x.place(0, 2));
        x = on("001:.s4reb7");
        int[] songs = {0, 4, 0, 0, 7};
        int[] rocks = {0, 0, 1, 2, 1};
        for (int place = 0; place < 5; place++) {
            due("place(" + place + ", 0)", songs[place], x.place(place, 0));
            due("place(" + place + ", 1)", rocks[place], x.place(place, 1));
        }
        due("place(5, 0)", UNKNOWN, x.place(5, 0));
        due("place(-1, 0)", UNKNOWN, x.place(-1, 0));
        due("place(max, 0)", UNKNOWN, x.place(Integer.MAX_VALUE, 0));
        due("place(min, 9)", UNKNOWN, x.place(Integer.MIN_VALUE, 9));
        due("place(0, 2)", OUTSIDE, x.place(0, 2));
        due("place(0, -1)", OUTSIDE, x.place(0, -1));
    }

    private static void promise7() {
        check.begin("promise 7");
        WaxInEars x = new WaxInEars();
        due("no passage", STATE, x.man(MAN, 1, 0));
        due("no passage, kind", OUTSIDE, x.man(5, 1, 0));
        x = on("451:.");
        due("kind -1", OUTSIDE, x.man(-1, 1, 0));
        due("kind 5", OUTSIDE, x.man(5, 1, 0));
        due("oar 0", OUTSIDE, x.man(MAN, 0, 0));
        due("oar 10", OUTSIDE, x.man(MAN, 10, 0));
        due("will -1", OUTSIDE, x.man(MAN, 1, -1));
        due("will 10", OUTSIDE, x.man(MAN, 1, 10));
        due("no man yet", 0, x.count(3));
        for (int kind = MAN; kind <= MATE; kind++) {
            due("man of kind " + kind, kind, x.man(kind, kind == 0 ? 1 : 9, kind == 0 ? 0 : 9));
        }
        due("a sixth", FULL, x.man(MAN, 1, 0));
        due("a sixth of no kind", OUTSIDE, x.man(7, 1, 0));
        x.stroke();
        due("five, one stroke later", STATE, x.man(MAN, 1, 0));
        WaxInEars still = crewOn("451:.", MAN, 1, 0);
        due("stays at place 0", 0, still.stroke());
        due("at place 0, stroke 1", STATE, still.man(MAN, 1, 0));
        due("at place 0, stroke 1, oar", OUTSIDE, still.man(MAN, 0, 0));
        WaxInEars moved = crewOn("001:..", MAN, 1, 0);
        due("comes to place 1", 1, moved.stroke());
        due("at place 1", STATE, moved.man(MAN, 1, 0));
    }

    private static void promise8() {
        check.begin("promise 8");
        WaxInEars x = crewOn("002:s5..", DEAF, 3, 7, OLD, 4, 2, SAILOR, 5, 6, MATE, 6, 1, MAN, 1, 0);
        int[][] want = {
            {DEAF, 3, 7, 0, 0, 0, 0, 7}, {OLD, 4, 2, 0, 0, 0, 1, 2}, {SAILOR, 5, 6, 0, 0, 0, 1, 6},
            {MATE, 6, 1, 0, 0, 0, 1, 1}, {MAN, 1, 0, 0, 0, 0, 1, 0}};
        abouts("at first", x, want);
        x.wax(0, true);
        x.wax(2, true);
        x.bind(2, 3);
        x.bind(3, 2);
        want[0][3] = 1;
        want[2] = new int[] {SAILOR, 5, 6, 1, 3, 0, 0, 12};
        want[3] = new int[] {MATE, 6, 1, 0, 2, 0, 1, 7};
        abouts("waxed and bound", x, want);
        due("stroke 0", 1, x.stroke());
        want[4][5] = 1;
        abouts("behind the song", x, want);
        due("stroke 1", 2, x.stroke());
        want[2][6] = 1;
        abouts("at noon", x, want);
        due("about(5, 0)", UNKNOWN, x.about(5, 0));
        due("about(-1, 0)", UNKNOWN, x.about(-1, 0));
        due("about(5, 8)", UNKNOWN, x.about(5, 8));
        due("about(0, 8)", OUTSIDE, x.about(0, 8));
        due("about(0, -1)", OUTSIDE, x.about(0, -1));
        due("about(max, 0)", UNKNOWN, x.about(Integer.MAX_VALUE, 0));
    }

    private static void abouts(String when, WaxInEars x, int[][] want) {
        for (int man = 0; man < want.length; man++) {
            for (int what = 0; what < want[man].length; what++) {
                due(when + " about(" + man + ", " + what + ")", want[man][what], x.about(man, what));
            }
        }
    }

    private static void promise9() {
        check.begin("promise 9");
        WaxInEars x = crewOn("451:.", MAN, 1, 0, DEAF, 1, 0, OLD, 1, 0, SAILOR, 1, 0, MATE, 1, 0);
        boolean[][] is = {
            {true, false, false, false, false}, {true, true, false, false, false},
            {true, false, true, false, false}, {true, false, false, true, false},
            {true, false, false, true, true}};
        for (int man = 0; man < 5; man++) {
            for (int kind = 0; kind < 5; kind++) {
                due("as(" + man + ", " + kind + ")", is[man][kind] ? man : NONE, x.as(man, kind));
            }
        }
        due("as(5, 0)", UNKNOWN, x.as(5, 0));
        due("as(-1, 7)", UNKNOWN, x.as(-1, 7));
        due("as(0, 5)", OUTSIDE, x.as(0, 5));
        due("as(0, -1)", OUTSIDE, x.as(0, -1));
        due("new as", UNKNOWN, new WaxInEars().as(0, 0));
    }

    private static void promise10() {
        check.begin("promise 10");
        WaxInEars x = crewOn("009:s5.", MAN, 1, 0, MAN, 1, 9);
        due("wax", 0, x.wax(1, true));
        due("wax again", 1, x.wax(1, true));
        due("has it", 1, x.about(1, 3));
        due("the other has none", 0, x.about(0, 3));
        due("none", 1, x.wax(1, false));
        due("none again", 0, x.wax(1, false));
        due("has none", 0, x.about(1, 3));
        due("wax(2)", UNKNOWN, x.wax(2, true));
        due("wax(-1)", UNKNOWN, x.wax(-1, true));
        x.stroke();
        due("of a lost one", STATE, x.wax(0, true));
        due("he has none", 0, x.about(0, 3));
        due("of one aboard", 0, x.wax(1, true));
        x.stroke();
        due("through", 1, x.count(7));
        due("when over", STATE, x.wax(1, false));
        due("when over, unknown", UNKNOWN, x.wax(2, false));
    }

    private static void promise11() {
        check.begin("promise 11");
        WaxInEars x = crewOn("009:s5.", MAN, 1, 0, MAN, 1, 9);
        due("bind", 0, x.bind(1, 9));
        due("bind again", 9, x.bind(1, 4));
        due("his knots", 4, x.about(1, 4));
        due("the other's", 0, x.about(0, 4));
        due("bind 10", OUTSIDE, x.bind(1, 10));
        due("bind -1", OUTSIDE, x.bind(1, -1));
        due("bind 0", 4, x.bind(1, 0));
        due("bind of nobody", UNKNOWN, x.bind(2, 10));
        x.stroke();
        due("of a lost one", STATE, x.bind(0, 1));
        due("of a lost one, knots", OUTSIDE, x.bind(0, 10));
        due("of one aboard", 0, x.bind(1, 0));
        x.stroke();
        due("when over", STATE, x.bind(1, 1));
        due("when over, knots", OUTSIDE, x.bind(1, 10));
        due("still none", 0, x.about(1, 4));
    }

    private static void promise12() {
        check.begin("promise 12");
        due("new stroke", STATE, new WaxInEars().stroke());
        WaxInEars x = on("059:..");
        due("no men", STATE, x.stroke());
        x.man(MAN, 4, 0);
        due("oars too few", 0, x.stroke());
        due("stroke 1", 1, x.count(6));
        WaxInEars y = crewOn("059:..", MAN, 4, 0, DEAF, 1, 0);
        y.bind(1, 1);
        due("a bound one's oar", 0, y.stroke());
        y.bind(1, 0);
        due("just need", 1, y.stroke());
        due("through", NONE, y.stroke());
        counts("through", y, 2, 5, 9, 2, 0, 1, 3, THROUGH);
        due("over", STATE, y.stroke());
        due("no more strokes", 3, y.count(6));
        WaxInEars lost = crewOn("059:s1..", MAN, 5, 0, MAN, 4, 1);
        due("a lost one's oar", 0, lost.stroke());
        due("one lost", 1, lost.count(4));
        WaxInEars none = crewOn("009:..", MAN, 9, 0);
        none.bind(0, 1);
        due("need 0, all bound", 1, none.stroke());
    }

    /** Whether one alone is lost at a song of a strength in the first stroke. */
    private static void song(int want, int strength, int kind, int will, int knots, boolean hasWax) {
        WaxInEars x = crewOn("459:s" + strength, kind, 9, will, DEAF, 1, 0);
        x.bind(0, knots);
        x.wax(0, hasWax);
        x.stroke();
        due("song " + strength + ", kind " + kind + ", will " + will + ", knots " + knots, want, x.about(0, 5));
    }

    private static void promise12Songs() {
        check.begin("promise 12, songs");
        song(1, 5, MAN, 4, 0, false);
        song(0, 5, MAN, 5, 0, false);
        song(0, 5, MAN, 0, 0, true);
        song(0, 9, DEAF, 0, 0, false);
        song(1, 5, OLD, 1, 0, false);
        song(0, 5, OLD, 2, 0, false);
        song(0, 1, OLD, 0, 0, false);
        song(1, 2, OLD, 0, 0, false);
        song(1, 9, SAILOR, 0, 4, false);
        song(0, 8, SAILOR, 0, 4, false);
        song(0, 9, MATE, 0, 3, false);
        song(1, 9, MATE, 2, 2, false);
        song(0, 9, MAN, 9, 0, false);
        WaxInEars x = crewOn("452:s5", MAN, 1, 0, DEAF, 1, 0);
        x.wax(0, true);
        x.wax(1, true);
        x.stroke();
        x.stroke();
        due("ahead of noon", 0, x.count(4));
        due("soft", 1, x.about(0, 6));
        x.stroke();
        due("in stroke noon", 1, x.about(0, 5));
        due("the deaf one", 0, x.about(1, 5));
    }

    private static int ends(WaxInEars x, int... knots) {
        for (int man = 0; man < knots.length; man++) {
            x.bind(man, knots[man]);
        }
        x.stroke();
        return x.count(7);
    }

    private static void promise12Rocks() {
        check.begin("promise 12, rocks");
        due("r, one hears", THROUGH, ends(crewOn("009:r", MAN, 1, 0)));
        due("r, the hearing one is bound", THROUGH, ends(crewOn("009:r", MAN, 1, 0), 2));
        due("r, a deaf one", STRUCK, ends(crewOn("009:r", DEAF, 1, 0)));
        WaxInEars x = crewOn("009:r", SAILOR, 1, 0, MAN, 1, 0);
        x.wax(0, true);
        x.wax(1, true);
        due("r, wax", NONE, x.stroke());
        counts("struck", x, 1, 0, 9, 2, 2, 0, 1, STRUCK);
        due("e, a sailor", THROUGH, ends(crewOn("009:e", SAILOR, 1, 0)));
        due("e, a mate", THROUGH, ends(crewOn("009:e", MATE, 1, 0)));
        due("e, a bound sailor", STRUCK, ends(crewOn("009:e", SAILOR, 1, 0), 1));
        due("e, no sailor", STRUCK, ends(crewOn("009:e", MAN, 1, 0, OLD, 1, 0, DEAF, 1, 0)));
        due("e, one is bound", THROUGH, ends(crewOn("009:e", SAILOR, 1, 0, MATE, 1, 0), 1, 0));
        due("e, both are bound", STRUCK, ends(crewOn("009:e", SAILOR, 1, 0, MATE, 1, 0), 1, 1));
        WaxInEars sees = crewOn("009:e", SAILOR, 1, 0);
        sees.wax(0, true);
        due("e, a sailor with wax", NONE, sees.stroke());
        due("he sees", THROUGH, sees.count(7));
        due("b, who hears swims, the deaf one stays", STRUCK, ends(crewOn("009:b5", MAN, 1, 4, DEAF, 1, 0)));
        due("b, one hears and stays", THROUGH, ends(crewOn("009:b5", MAN, 1, 5, DEAF, 1, 0)));
        due("a rock ahead of oars", STRUCK, ends(crewOn("459:r", DEAF, 1, 0)));
        WaxInEars noon = crewOn("451:r", MAN, 1, 0);
        noon.wax(0, true);
        due("r ahead of noon", STRUCK, ends(noon));
        WaxInEars soft = crewOn("011:.r", MAN, 1, 0);
        soft.wax(0, true);
        due("on the way to r", 1, soft.stroke());
        due("r at noon", NONE, soft.stroke());
        due("he hears it", THROUGH, soft.count(7));
    }

    private static void promise12Ends() {
        check.begin("promise 12, ends");
        WaxInEars x = crewOn("019:s5.", MAN, 1, 0);
        due("all swim", NONE, x.stroke());
        counts("drifting", x, 2, 1, 9, 1, 1, 0, 1, DRIFTING);
        // With nobody aboard the stroke comes neither to the rock nor, by NEED 00, to the next place.
        allSwim("019:b5");
        allSwim("009:b5");
        allSwim("009:s5");
        allSwim("009:s5.");
        allSwim("009:s5r");
        allSwim("459:s5e");
        WaxInEars late = crewOn("001:.b5r", MAN, 1, 4, OLD, 1, 1);
        due("all swim later: place 1", 1, late.stroke());
        due("all swim later", NONE, late.stroke());
        counts("drifting later", late, 3, 0, 1, 2, 2, 1, 2, DRIFTING);
        WaxInEars oneStays = crewOn("009:b5", MAN, 1, 4, DEAF, 1, 0);
        due("one stays aboard, the rock rings", NONE, oneStays.stroke());
        due("he strikes", STRUCK, oneStays.count(7));
        WaxInEars oneRows = crewOn("009:s5", MAN, 1, 4, DEAF, 1, 0);
        due("one stays aboard, need 0", NONE, oneRows.stroke());
        due("he is through", THROUGH, oneRows.count(7));
    }

    /** One of no will at a song in the first place swims, and it is over there. */
    private static void allSwim(String text) {
        WaxInEars x = crewOn(text, MAN, 1, 0);
        outcome(x, 1, 1, DRIFTING);
        due(text + ", all swim", NONE, x.stroke());
        due(text + ", lost", 1, x.count(4));
        due(text + ", the place", 0, x.count(5));
        due(text + ", the stroke", 1, x.count(6));
        due(text + ", drifting", DRIFTING, x.count(7));
        due(text + ", over", STATE, x.stroke());
    }

    private static void promise13() {
        check.begin("promise 13");
        due("new", STATE, new WaxInEars().outcome(0));
        due("new, what", OUTSIDE, new WaxInEars().outcome(3));
        WaxInEars x = on("019:s5s6.");
        due("no men", STATE, x.outcome(0));
        x.man(MAN, 1, 9);
        x.man(MAN, 1, 4);
        x.man(MAN, 1, 5);
        outcome(x, 2, 3, THROUGH);
        due("nothing is changed", 0, x.count(6));
        x.stroke();
        outcome(x, 2, 2, THROUGH);
        due("outcome(-1)", OUTSIDE, x.outcome(-1));
        due("outcome(3)", OUTSIDE, x.outcome(3));
        x.stroke();
        x.stroke();
        due("over", STATE, x.outcome(0));
        due("over, what", OUTSIDE, x.outcome(3));
        outcome(crewOn("029:.", MAN, 1, 9), 0, 30, 0);
        outcome(crewOn("019:r", DEAF, 1, 9), 1, 1, STRUCK);
        outcome(crewOn("019:.s5", MAN, 1, 4), 1, 2, DRIFTING);
    }

    private static void promise14() {
        check.begin("promise 14");
        due("new", STATE, new WaxInEars().waxing(0, 0));
        due("new, pieces", OUTSIDE, new WaxInEars().waxing(6, 0));
        due("no men", STATE, on("001:.").waxing(0, 0));
        WaxInEars x = crewOn("039:s5.", MAN, 3, 0, MAN, 2, 0, MAN, 1, 0, MAN, 1, 9);
        due("pieces -1", OUTSIDE, x.waxing(-1, 0));
        due("pieces 6", OUTSIDE, x.waxing(6, 0));
        due("what -1", OUTSIDE, x.waxing(1, -1));
        due("what 2", OUTSIDE, x.waxing(1, 2));
        waxing(x, 0, 3, 0);
        waxing(x, 1, 2, 1);
        waxing(x, 2, 1, 3);
        waxing(x, 3, 0, 7);
        waxing(x, 5, 0, 7);
        x.wax(3, true);
        waxing(x, 5, 0, 7);
        due("he has his yet", 1, x.about(3, 3));
        due("nothing is changed", 0, x.about(0, 3));
        WaxInEars struck = crewOn("079:b5", MAN, 9, 4, DEAF, 7, 0);
        waxing(struck, 5, 2, 0);
        WaxInEars hears = crewOn("099:s5r", DEAF, 9, 0, MAN, 1, 0, MAN, 1, 5);
        waxing(hears, 5, 0, 2);
        WaxInEars softWax = crewOn("459:s5", MAN, 1, 0, MAN, 1, 0);
        waxing(softWax, 1, 2, 0);
        // Through with two lost comes ahead of a stay with one lost.
        WaxInEars through = crewOn("059:s5s9", MAN, 5, 0, MAN, 1, 0, MAN, 1, 0);
        through.bind(1, 3);
        through.bind(2, 3);
        waxing(through, 0, 1, 0);
        waxing(through, 1, 2, 1);
        waxing(through, 3, 0, 7);
        x.stroke();
        due("three are lost", 3, x.count(4));
        waxing(x, 5, 3, 0);
        WaxInEars over = crewOn("001:.", MAN, 1, 0);
        over.stroke();
        due("over", STATE, over.waxing(0, 0));
        due("over, what", OUTSIDE, over.waxing(0, 2));
        waxing(crewOn("019:s9r", MAN, 1, 0, MAN, 1, 0, MAN, 1, 0, MAN, 1, 0, MAN, 1, 0), 0, 5, 0);
        // Wax only to those aboard: one is lost, the other one rows on to another song.
        WaxInEars aboard = crewOn("019:s5s9", MAN, 1, 0, MAN, 1, 5);
        aboard.stroke();
        waxing(aboard, 5, 1, 2);
        // Who swims later, alone, is not through by NEED 00 at the last place: a piece is no help.
        waxing(crewOn("001:s5rs5", MAN, 1, 0), 1, 1, 0);
    }

    private static void promise15() {
        check.begin("promise 15");
        due("new", UNKNOWN, new WaxInEars().hold(0));
        due("no men", UNKNOWN, on("001:.").hold(0));
        WaxInEars x = crewOn("019:s9.", MAN, 1, 0, MATE, 1, 0, OLD, 1, 0, DEAF, 1, 0, MAN, 1, 8);
        due("man", 5, x.hold(0));
        due("mate", 3, x.hold(1));
        due("old", 2, x.hold(2));
        due("deaf", 0, x.hold(3));
        due("will 8", 1, x.hold(4));
        x.bind(1, 9);
        due("bound already", 3, x.hold(1));
        due("nothing is changed", 9, x.about(1, 4));
        x.wax(0, true);
        due("with wax", 0, x.hold(0));
        due("hold(5)", UNKNOWN, x.hold(5));
        due("hold(-1)", UNKNOWN, x.hold(-1));
        x.stroke();
        due("a lost one", STATE, x.hold(2));
        due("one aboard", 0, x.hold(3));
        x.stroke();
        due("over", STATE, x.hold(3));
        due("over, unknown", UNKNOWN, x.hold(5));
        due("none", NONE, crewOn("009:r", DEAF, 1, 0).hold(0));
        due("none who may be bound", NONE, crewOn("009:s9e", MATE, 1, 0).hold(0));
        // Bound he does not row: the ship stays ahead of the rock.
        due("away from a rock", 1, crewOn("019:.r", DEAF, 1, 0).hold(0));
    }

    private static void promise16() {
        check.begin("promise 16");
        due("new", STATE, new WaxInEars().listener());
        due("no men", STATE, on("001:.").listener());
        due("alone", 0, crewOn("019:s9", MAN, 1, 0).listener());
        // With the oar of 3 bound the ship stays; with one of 2 bound it goes on and hears the rock.
        WaxInEars x = crewOn("059:s9r", MAN, 3, 0, MAN, 2, 0, MAN, 2, 0);
        due("the weaker oar", 1, x.listener());
        due("nothing is changed", 0, x.about(1, 4) + x.about(1, 3) + x.about(0, 3));
        due("of like ones", 0, crewOn("029:s9r", MAN, 2, 0, MAN, 2, 0).listener());
        due("not the deaf one", 1, crewOn("029:s9r", DEAF, 2, 0, MAN, 2, 0).listener());
        // The knots of all others go, so that the ship is rowed.
        WaxInEars bound = crewOn("039:s9r", DEAF, 3, 0, MAN, 3, 0);
        bound.bind(0, 5);
        due("others are free", 1, bound.listener());
        // Through with one lost, by soft wax, comes ahead of a stay with none lost.
        due("through", 1, crewOn("031:.s9", MAN, 3, 9, MAN, 1, 0, MAN, 1, 0).listener());
        WaxInEars lost = crewOn("029:s9r", MAN, 2, 0, MAN, 2, 0);
        lost.wax(1, true);
        lost.stroke();
        due("one aboard yet", 1, lost.listener());
        WaxInEars over = crewOn("001:.", MAN, 1, 0);
        over.stroke();
        due("over", STATE, over.listener());
    }

    private static void promise17() {
        check.begin("promise 17");
        due("new", STATE, new WaxInEars().sold());
        due("no men", STATE, on("001:.").sold());
        due("none swims", 0, crewOn("019:s5", MAN, 1, 5).sold());
        due("less by 5", 5, crewOn("019:s5", MAN, 1, 0).sold());
        due("less by 9", 9, crewOn("019:s9s3", MAN, 1, 0).sold());
        due("an old one", 4, crewOn("019:s9", OLD, 1, 2).sold());
        due("a weak song is 0", 8, crewOn("019:s1s9", MAN, 1, 1).sold());
        due("a rock", NONE, crewOn("019:r", DEAF, 1, 0).sold());
        WaxInEars x = crewOn("019:s5s3", MAN, 1, 0, MAN, 1, 2);
        x.wax(1, true);
        x.stroke();
        due("one is lost now", 1, x.count(4));
        due("less for the other", 0, x.sold());
        x.wax(1, false);
        due("less by 1", 1, x.sold());
        due("songs stay", 3, x.place(1, 0));
        x.stroke();
        due("over", STATE, x.sold());
    }

    private static void promise18() {
        check.begin("promise 18");
        WaxInEars x = new WaxInEars();
        due("no men, log(0)", 1, x.log(0));
        due("no men, log(1)", OUTSIDE, x.log(1));
        x = crewOn("001:.", MAN, 1, 0, MAN, 1, 0);
        due("the log is gone", 0, x.count(8));
        due("log(4)", OUTSIDE, x.log(4));
        due("log(-1)", OUTSIDE, x.log(-1));
        due("log(min)", OUTSIDE, x.log(Integer.MIN_VALUE));
        for (int told = 0; told < 8; told++) {
            due("log", told + 1, x.log(told % 4));
        }
        due("a ninth", FULL, x.log(0));
        due("a ninth outside", OUTSIDE, x.log(4));
        due("count(8)", 8, x.count(8));
        WaxInEars five = crewOn("001:.", MAN, 1, 0, MAN, 1, 0, MAN, 1, 0, MAN, 1, 0, MAN, 1, 0);
        due("log(31)", 1, five.log(31));
        due("log(32)", OUTSIDE, five.log(32));
        five.stroke();
        due("when over", 2, five.log(3));
    }

    private static void promise19() {
        check.begin("promise 19");
        WaxInEars x = crewOn("019:s5.", MAN, 1, 0);
        due("forget nothing", 0, x.forget());
        x.log(1);
        x.log(1);
        due("no fit", 0, x.fits());
        due("forget", 2, x.forget());
        due("count(8)", 0, x.count(8));
        due("all fit", 2, x.fits());
        due("log", 1, x.log(0));
        for (int told = 1; told < 8; told++) {
            x.log(0);
        }
        due("forget eight", 8, x.forget());
        due("log after eight", 1, x.log(0));
    }

    private static void promise20() {
        check.begin("promise 20");
        due("new", STATE, new WaxInEars().fits());
        due("no men", STATE, on("001:.").fits());
        WaxInEars x = crewOn("019:s5s9", MAN, 1, 0, MAN, 1, 5, DEAF, 1, 0);
        due("an empty log", 8, x.fits());
        x.log(1);
        due("man 0 swam", 4, x.fits());
        x.log(2);
        due("man 1 swam", 2, x.fits());
        x.log(0);
        due("through, nobody swims", 2, x.fits());
        x.log(4);
        due("none fits", 0, x.fits());
        x.forget();
        x.log(4);
        due("the deaf one never", 0, x.fits());
        x.forget();
        x.log(0);
        x.bind(0, 3);
        due("knots as now", 8, x.fits());
        x.bind(0, 0);
        due("without knots", 4, x.fits());
        x.wax(0, true);
        due("wax now is nothing to it", 4, x.fits());
        x.stroke();
        x.stroke();
        due("over, from place 0, all aboard", 4, x.fits());
        // Struck in stroke 0: they are lost, but did not swim.
        WaxInEars y = crewOn("459:b5", MAN, 1, 0, MAN, 1, 6);
        y.log(1);
        due("one swam, one heard", 2, y.fits());
        y.forget();
        y.log(0);
        y.log(0);
        due("one heard, or struck", 2, y.fits());
        WaxInEars noon = crewOn("452:s5", MAN, 1, 0);
        noon.log(0);
        noon.log(0);
        noon.log(1);
        due("wax till noon", 1, noon.fits());
    }

    private static void promise21() {
        check.begin("promise 21");
        due("new", UNKNOWN, new WaxInEars().sure(0));
        WaxInEars x = crewOn("029:s5.", MAN, 1, 0, MAN, 1, 0, MAN, 1, 9);
        due("not sure", NONE, x.sure(0));
        x.log(1);
        due("none", 0, x.sure(0));
        due("wax", 1, x.sure(1));
        due("who knows", NONE, x.sure(2));
        due("sure(3)", UNKNOWN, x.sure(3));
        due("sure(-1)", UNKNOWN, x.sure(-1));
        due("sure(max)", UNKNOWN, x.sure(Integer.MAX_VALUE));
        x.log(1);
        due("no such sets", 0, x.fits());
        due("no such sets", NONE, x.sure(0));
        due("no such sets", NONE, x.sure(1));
        x.forget();
        x.log(0);
        x.stroke();
        due("a lost one had", 1, x.sure(0));
    }

    private static void promise22() {
        check.begin("promise 22");
        due("new", STATE, new WaxInEars().voyages(1, 0, 0));
        due("new, voyages", OUTSIDE, new WaxInEars().voyages(0, 0, 0));
        due("no men", STATE, on("001:s5").voyages(1, 0, 0));
        WaxInEars x = crewOn("019:s5.b3.", MAN, 1, 9, MAN, 1, 4);
        due("voyages 0", OUTSIDE, x.voyages(0, 0, 0));
        due("voyages 21", OUTSIDE, x.voyages(21, 0, 0));
        due("seed -1", OUTSIDE, x.voyages(1, -1, 0));
        due("what -1", OUTSIDE, x.voyages(1, 0, -1));
        due("what 3", OUTSIDE, x.voyages(1, 0, 3));
        due("seed 0 behind two draws", seedAfter(0, 2), x.voyages(1, 0, 2));
        due("seed 7 behind forty", seedAfter(7, 40), x.voyages(20, 7, 2));
        due("the greatest seed", seedAfter(Integer.MAX_VALUE, 2), x.voyages(1, Integer.MAX_VALUE, 2));
        due("all through", 20, x.voyages(20, 7, 0));
        due("lost by strengths drawn", lostByDraws(20, 7, 2, 4), x.voyages(20, 7, 1));
        due("lost by other strengths", lostByDraws(13, 99, 2, 4), x.voyages(13, 99, 1));
        x.stroke();
        x.stroke();
        x.stroke();
        x.stroke();
        due("over, from place 0", 20, x.voyages(20, 7, 0));
        due("over, all aboard", lostByDraws(20, 7, 2, 4), x.voyages(20, 7, 1));
        due("still over", THROUGH, x.count(7));
        WaxInEars least = crewOn("019:s1", MAN, 1, 0);
        due("a song of 1 is drawn, too", seedAfter(3, 20), least.voyages(20, 3, 2));
        due("and heard as drawn", lostByDraws(20, 3, 1, 0), least.voyages(20, 3, 1));
        // With nobody aboard no voyage is through, with NEED 00 either.
        WaxInEars alone = crewOn("009:s1", MAN, 1, 0);
        due("all swim", lostByDraws(20, 1, 1, 0), alone.voyages(20, 1, 1));
        due("the others are through", 20 - lostByDraws(20, 1, 1, 0), alone.voyages(20, 1, 0));
        WaxInEars songless = crewOn("019:.r", MAN, 1, 0);
        due("no draws", 5, songless.voyages(3, 5, 2));
        due("through", 3, songless.voyages(3, 5, 0));
        songless.wax(0, true);
        due("wax as now: struck", 0, songless.voyages(3, 5, 0));
        due("struck, lost", 3, songless.voyages(3, 5, 1));
        songless.wax(0, false);
        songless.bind(0, 1);
        due("knots as now: stays", 0, songless.voyages(3, 5, 0));
        due("stays, not lost", 0, songless.voyages(3, 5, 1));
    }

    /** Of one of a will alone, how often one of some songs drawn for a voyage is too strong. */
    private static int lostByDraws(int voyages, int seed, int songs, int will) {
        int lost = 0;
        int next = seed;
        for (int voyage = 0; voyage < voyages; voyage++) {
            boolean swims = false;
            for (int song = 0; song < songs; song++) {
                next = seedAfter(next, 1);
                swims |= (next >> 16) % 10 > will;
            }
            lost += swims ? 1 : 0;
        }
        return lost;
    }

    private static void promise23() {
        check.begin("promise 23");
        due("new", STATE, new WaxInEars().image());
        WaxInEars x = on("029:..");
        due("no men", 0, x.image());
        x.man(MAN, 1, 0);
        x.stroke();
        x.stroke();
        due("stroke 2", 2, x.image());
        x.stroke();
        due("the latest", 2, x.restore());
        due("with a man", 1, x.count(3));
        x.man(MAN, 1, 0);
        WaxInEars over = crewOn("001:.", MAN, 1, 0);
        over.stroke();
        due("over", 1, over.image());
    }

    private static void promise24() {
        check.begin("promise 24");
        due("new", STATE, new WaxInEars().restore());
        WaxInEars x = crewOn("019:s5.", MAN, 1, 0, MAN, 1, 5);
        due("none was kept", STATE, x.restore());
        x.wax(1, true);
        x.bind(0, 1);
        x.log(1);
        x.image();
        x.man(SAILOR, 1, 0);
        x.wax(1, false);
        x.bind(0, 0);
        x.bind(2, 7);
        x.wax(2, true);
        x.log(7);
        x.stroke();
        x.stroke();
        due("over", THROUGH, x.count(7));
        due("lost", 1, x.count(4));
        due("restore", 0, x.restore());
        counts("restored", x, 2, 1, 9, 2, 0, 0, 0, 0, 1);
        due("wax", 1, x.about(1, 3));
        due("knots", 1, x.about(0, 4));
        due("aboard", 0, x.about(0, 5));
        due("gone", UNKNOWN, x.about(2, 0));
        due("the log", 2, x.log(3));
        due("the bits of a gone one", OUTSIDE, x.log(4));
        due("another comes", 2, x.man(OLD, 3, 4));
        due("his kind", OLD, x.about(2, 0));
        due("his oar", 3, x.about(2, 1));
        due("his wax", 0, x.about(2, 3));
        due("his knots", 0, x.about(2, 4));
        due("his hold", 4, x.about(2, 7));
        x.stroke();
        due("once more", 0, x.restore());
        due("the log once more", 1, x.count(8));
        due("men once more", 2, x.count(3));
        WaxInEars told = crewOn("019:s5", MAN, 1, 0);
        told.log(1);
        told.image();
        told.forget();
        told.log(0);
        due("another log fits", 1, told.fits());
        due("who had wax by it", 1, told.sure(0));
        told.restore();
        due("what was told", 0, told.sure(0));
        WaxInEars over = crewOn("001:.", MAN, 1, 0);
        over.stroke();
        over.image();
        due("to an end", 1, over.restore());
        due("through", THROUGH, over.count(7));
        due("stays over", STATE, over.stroke());
        typed(x, "00");
        due("the page stays", 0, x.restore());
        due("letters", 2, x.count(9));
        typed(x, "1");
        due("no passage yet", STATE, x.passage());
        due("so it is not gone", 0, x.restore());
        typed(x, ":.");
        due("another passage", 1, x.passage());
        due("gone", STATE, x.restore());
        due("times read", 2, x.count(10));
        x.image();
        due("kept anew", 0, x.restore());
    }

    private static void promise25() {
        check.begin("promise 25");
        WaxInEars x = crewOn("129:s5..", MAN, 9, 5, MAN, 3, 7, MAN, 9, 4);
        x.log(4);
        x.log(0);
        x.stroke();
        typed(x, "abc");
        counts("under way", x, 3, 12, 9, 3, 1, 1, 1, 0, 2, 3, 1);
        due("count(11)", OUTSIDE, x.count(11));
        due("count(-1)", OUTSIDE, x.count(-1));
        due("count(min)", OUTSIDE, x.count(Integer.MIN_VALUE));
        due("new count(11)", OUTSIDE, new WaxInEars().count(11));
        WaxInEars ends = crewOn("305:b9", MAN, 1, 0);
        ends.stroke();
        counts("all swim at a rock", ends, 1, 30, 5, 1, 1, 0, 1, DRIFTING, 0, 0, 1);
        ends = crewOn("305:r", DEAF, 1, 0);
        ends.stroke();
        counts("struck", ends, 1, 30, 5, 1, 1, 0, 1, STRUCK, 0, 0, 1);
        ends = crewOn("005:.", MAN, 1, 0);
        ends.stroke();
        counts("through", ends, 1, 0, 5, 1, 0, 0, 1, THROUGH, 0, 0, 1);
    }

    private static void promise26() {
        check.begin("promise 26");
        // Two pieces leave one to swim, three would leave none.
        due("two pieces", digestOf(5, 0, MAN, 1, 0, 0, 0, 0, 1, 0, MAN, 1, 0, 0, 0, 0, 1, 0, MAN, 1, 0, 0, 0, 0, 1, 0,
            3, 1, DRIFTING, 1, 3, 0, 5, 8, 1, 2, 9, 3, 0, 0, 0, 0, 0, 0, 1),
            crewOn("029:s5", MAN, 1, 0, MAN, 1, 0, MAN, 1, 0).digest());
        due("one man", digestOf(0, 0, MAN, 1, 0, 0, 0, 0, 1, 0, 0, 1, THROUGH, 0, 0, 0, 0, 2,
            1, 1, 9, 1, 0, 0, 0, 0, 0, 0, 1), crewOn("019:.", MAN, 1, 0).digest());
        due("letters", digestOf('4', '~', 0, 0, 0, 0, 0, 0, 0, 0, 0, 2, 0), page("4~").digest());
        WaxInEars x = on("019:s5b7");
        due("no men", digestOf(5, 0, 7, 1, 2, 1, 9, 0, 0, 0, 0, 0, 0, 0, 1), x.digest());
        x.man(MAN, 1, 0);
        x.man(MATE, 2, 7);
        x.bind(0, 1);
        x.log(1);
        x.letter('x');
        long before = digestOf(5, 0, 7, 1,
            MAN, 1, 0, 0, 1, 0, 1, 2, MATE, 2, 7, 0, 0, 0, 1, 7,
            1, 2, THROUGH, 0, 1, 0, 5,
            2, 'x',
            2, 1, 9, 2, 0, 0, 0, 0, 1, 1, 1);
        due("under way", before, x.digest());
        due("again", before, x.digest());
        x.stroke();
        x.stroke();
        due("over", digestOf(5, 0, 7, 1,
            MAN, 1, 0, 0, 1, 1, 1, 2, MATE, 2, 7, 0, 0, 0, 1, 7,
            2, 'x',
            2, 1, 9, 2, 1, 1, 2, THROUGH, 1, 1, 1), x.digest());
        WaxInEars alone = crewOn("009:b1", MAN, 1, 0);
        due("all would swim", digestOf(1, 1, MAN, 1, 0, 0, 0, 0, 1, 0, 1, 1, DRIFTING, 1, 0, 0, 1, 2,
            1, 0, 9, 1, 0, 0, 0, 0, 0, 0, 1), alone.digest());
        alone.stroke();
        due("all swam", digestOf(1, 1, MAN, 1, 0, 0, 0, 1, 1, 0, 2,
            1, 0, 9, 1, 1, 0, 1, DRIFTING, 0, 0, 1), alone.digest());
    }
}
