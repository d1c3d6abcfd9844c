/**
 * A crew rows past the singing island: a passage of songs and rocks, men with oars, wills, wax and
 * knots, strokes one by one, what would be, a log, and voyages by a seed.
 *
 * Every row is made in a constructor and used again: no call makes an object.
 */
public final class WaxInEars {
    public static final int NONE = -1, UNKNOWN = -101, OUTSIDE = -102, STATE = -103, FULL = -104;

    private static final int MAN = 0, DEAF = 1, OLD = 2, SAILOR = 3, MATE = 4;
    private static final int NO_ROCK = 0, RINGING_ROCK = 1, SEEN_ROCK = 2;
    private static final int UNDER_WAY = 0, THROUGH = 1, STRUCK = 2, DRIFTING = 3;

    private static final int MOST_LETTERS = 30, MOST_PLACES = 12, MOST_MEN = 5, MOST_TOLD = 8;
    private static final int MOST_OAR = 9, MOST_WILL = 9, MOST_KNOTS = 9, MOST_STRENGTH = 9;
    private static final int MOST_STROKES = 30, MOST_VOYAGES = 20;
    private static final int FIRST_CODE = 32, LAST_CODE = 126;
    /** Letters of a passage ahead of its places: two of NEED, one of NOON, the colon. */
    private static final int HEAD_LETTERS = 4;
    /** As many as there are numbers of lost men. */
    private static final int RANKS_OF_A_KIND = MOST_MEN + 1;
    private static final int DIGEST_PIECES = 2;
    private static final int ABOUT_ITEMS = 8, COUNT_ITEMS = 11, OUTCOME_ITEMS = 3;

    private final Page page = new Page();
    private final Passage passage = new Passage();
    private final Crew crew = new Crew();
    private final Ship ship = new Ship();
    private final Log log = new Log();

    private final Ship keptShip = new Ship();
    private final Log keptLog = new Log();
    private int keptMen;
    private boolean isKept;

    private final Ship trialShip = new Ship();
    private final Passage trialPassage = new Passage();

    private int timesRead;

    public WaxInEars() {
    }

    // ---- the passage

    public int letter(int code) {
        if (code < FIRST_CODE || code > LAST_CODE) {
            return OUTSIDE;
        }
        if (page.size >= MOST_LETTERS) {
            return FULL;
        }
        page.add(code);
        return page.size;
    }

    public int blank() {
        int had = page.size;
        page.size = 0;
        return had;
    }

    public int fault() {
        return page.firstFault();
    }

    public int passage() {
        if (!page.isPassage()) {
            return STATE;
        }
        passage.read(page);
        page.size = 0;
        crew.size = 0;
        log.size = 0;
        ship.startWith(0);
        isKept = false;
        timesRead++;
        return passage.size;
    }

    public int place(int place, int what) {
        if (place < 0 || place >= passage.size) {
            return UNKNOWN;
        }
        if (what < 0 || what > 1) {
            return OUTSIDE;
        }
        return what == 0 ? passage.songAt(place) : passage.rockAt(place);
    }

    // ---- men

    public int man(int kind, int oar, int will) {
        if (!isKind(kind) || oar < 1 || oar > MOST_OAR || will < 0 || will > MOST_WILL) {
            return OUTSIDE;
        }
        if (!hasPassage() || ship.place != 0 || ship.strokes != 0) {
            return STATE;
        }
        if (crew.size >= MOST_MEN) {
            return FULL;
        }
        int man = crew.size;
        crew.add(kind, oar, will);
        ship.board(man);
        return man;
    }

    public int about(int man, int what) {
        if (!isKnown(man)) {
            return UNKNOWN;
        }
        switch (what) {
            case 0: return crew.kindOf(man);
            case 1: return crew.oarOf(man);
            case 2: return crew.willOf(man);
            case 3: return asInt(ship.isWaxed(man));
            case 4: return ship.knotsOf(man);
            case 5: return asInt(!ship.isAboard(man));
            case 6: return asInt(ship.isHearing(man, passage, crew));
            case 7: return ship.holdOn(man, crew);
            default: return OUTSIDE;
        }
    }

    public int as(int man, int kind) {
        if (!isKnown(man)) {
            return UNKNOWN;
        }
        if (!isKind(kind)) {
            return OUTSIDE;
        }
        return crew.isOfKind(man, kind) ? man : NONE;
    }

    public int wax(int man, boolean is) {
        if (!isKnown(man)) {
            return UNKNOWN;
        }
        if (!ship.isAboard(man) || ship.how != UNDER_WAY) {
            return STATE;
        }
        int had = asInt(ship.isWaxed(man));
        ship.setWax(man, is);
        return had;
    }

    public int bind(int man, int knots) {
        if (!isKnown(man)) {
            return UNKNOWN;
        }
        if (knots < 0 || knots > MOST_KNOTS) {
            return OUTSIDE;
        }
        if (!ship.isAboard(man) || ship.how != UNDER_WAY) {
            return STATE;
        }
        int had = ship.knotsOf(man);
        ship.setKnots(man, knots);
        return had;
    }

    public int stroke() {
        if (!canGoOn()) {
            return STATE;
        }
        ship.row(passage, crew);
        return ship.how == UNDER_WAY ? ship.place : NONE;
    }

    // ---- what would be

    public int outcome(int what) {
        if (what < 0 || what >= OUTCOME_ITEMS) {
            return OUTSIDE;
        }
        if (!canGoOn()) {
            return STATE;
        }
        trialShip.copy(ship);
        int done = trialShip.rowOn(passage, crew);
        if (what == 0) {
            return trialShip.lostOf(crew);
        }
        return what == 1 ? done : trialShip.how;
    }

    public int waxing(int pieces, int what) {
        if (pieces < 0 || pieces > MOST_MEN || what < 0 || what > 1) {
            return OUTSIDE;
        }
        if (!canGoOn()) {
            return STATE;
        }
        int best = 0;
        int bestRank = rankWithWax(0);
        for (int set = 1; set <= crew.everyone(); set++) {
            if ((set & ~ship.aboard) == 0 && Integer.bitCount(set) <= pieces) {
                int rank = rankWithWax(set);
                if (rank < bestRank || (rank == bestRank && Integer.bitCount(set) < Integer.bitCount(best))) {
                    best = set;
                    bestRank = rank;
                }
            }
        }
        return what == 1 ? best : bestRank % RANKS_OF_A_KIND;
    }

    public int hold(int man) {
        if (!isKnown(man)) {
            return UNKNOWN;
        }
        if (!canGoOn() || !ship.isAboard(man)) {
            return STATE;
        }
        for (int knots = 0; knots <= MOST_KNOTS; knots++) {
            trialShip.copy(ship);
            trialShip.setKnots(man, knots);
            trialShip.rowOn(passage, crew);
            if (trialShip.isAboard(man)) {
                return knots;
            }
        }
        return NONE;
    }

    public int listener() {
        if (!canGoOn()) {
            return STATE;
        }
        int best = NONE;
        int bestRank = 0;
        for (int man = 0; man < crew.size; man++) {
            if (ship.isAboard(man)) {
                int rank = rankWithListener(man);
                if (best == NONE || rank < bestRank) {
                    best = man;
                    bestRank = rank;
                }
            }
        }
        return best;
    }

    public int sold() {
        if (!canGoOn()) {
            return STATE;
        }
        int lostNow = ship.lostOf(crew);
        for (int less = 0; less <= MOST_STRENGTH; less++) {
            trialPassage.copyWeaker(passage, less);
            trialShip.copy(ship);
            trialShip.rowOn(trialPassage, crew);
            if (trialShip.lostOf(crew) == lostNow) {
                return less;
            }
        }
        return NONE;
    }

    // ---- a log

    public int log(int set) {
        if (set < 0 || set > crew.everyone()) {
            return OUTSIDE;
        }
        if (log.size >= MOST_TOLD) {
            return FULL;
        }
        log.add(set);
        return log.size;
    }

    public int forget() {
        int had = log.size;
        log.size = 0;
        return had;
    }

    public int fits() {
        if (!hasPassage() || crew.size == 0) {
            return STATE;
        }
        return fittingSetsWith(0);
    }

    public int sure(int man) {
        if (!isKnown(man)) {
            return UNKNOWN;
        }
        int all = fittingSetsWith(0);
        int his = fittingSetsWith(1 << man);
        if (all == 0 || (his != 0 && his != all)) {
            return NONE;
        }
        return asInt(his == all);
    }

    public int voyages(int voyages, int seed, int what) {
        if (voyages < 1 || voyages > MOST_VOYAGES || seed < 0 || what < 0 || what > 2) {
            return OUTSIDE;
        }
        if (!hasPassage() || crew.size == 0) {
            return STATE;
        }
        int through = 0;
        int lost = 0;
        int next = seed;
        for (int voyage = 0; voyage < voyages; voyage++) {
            next = trialPassage.copyDrawn(passage, next);
            trialShip.copy(ship);
            trialShip.startWith(crew.everyone());
            trialShip.rowOn(trialPassage, crew);
            through += asInt(trialShip.how == THROUGH);
            lost += trialShip.lostOf(crew);
        }
        if (what == 0) {
            return through;
        }
        return what == 1 ? lost : next;
    }

    // ---- what is told of all

    public int image() {
        if (!hasPassage()) {
            return STATE;
        }
        keptShip.copy(ship);
        keptLog.copy(log);
        keptMen = crew.size;
        isKept = true;
        return ship.strokes;
    }

    public int restore() {
        if (!isKept) {
            return STATE;
        }
        ship.copy(keptShip);
        log.copy(keptLog);
        crew.size = keptMen;
        return ship.strokes;
    }

    public int count(int what) {
        switch (what) {
            case 0: return passage.size;
            case 1: return passage.need;
            case 2: return passage.noon;
            case 3: return crew.size;
            case 4: return ship.lostOf(crew);
            case 5: return ship.place;
            case 6: return ship.strokes;
            case 7: return ship.how;
            case 8: return log.size;
            case 9: return page.size;
            case 10: return timesRead;
            default: return OUTSIDE;
        }
    }

    public long digest() {
        long h = 757;
        for (int place = 0; place < passage.size; place++) {
            h = mix(mix(h, place(place, 0)), place(place, 1));
        }
        for (int man = 0; man < crew.size; man++) {
            for (int what = 0; what < ABOUT_ITEMS; what++) {
                h = mix(h, about(man, what));
            }
        }
        if (canGoOn()) {
            for (int what = 0; what < OUTCOME_ITEMS; what++) {
                h = mix(h, outcome(what));
            }
            h = mix(mix(h, waxing(DIGEST_PIECES, 0)), waxing(DIGEST_PIECES, 1));
            h = mix(mix(h, listener()), sold());
        }
        if (hasPassage() && crew.size > 0) {
            h = mix(h, fits());
        }
        for (int index = 0; index < page.size; index++) {
            h = mix(h, page.codeAt(index));
        }
        for (int what = 0; what < COUNT_ITEMS; what++) {
            h = mix(h, count(what));
        }
        return h;
    }

    // ---- what the calls share

    private static long mix(long h, long number) {
        return 31 * h + number;
    }

    private boolean hasPassage() {
        return passage.size > 0;
    }

    private boolean isKnown(int man) {
        return man >= 0 && man < crew.size;
    }

    private boolean canGoOn() {
        return hasPassage() && crew.size > 0 && ship.how == UNDER_WAY;
    }

    private int rankWithWax(int set) {
        trialShip.copy(ship);
        trialShip.waxed = set;
        trialShip.rowOn(passage, crew);
        return rankOfTrial();
    }

    private int rankWithListener(int listener) {
        trialShip.copy(ship);
        trialShip.waxed = ship.aboard & ~(1 << listener);
        for (int man = 0; man < crew.size; man++) {
            trialShip.setKnots(man, man == listener ? MOST_KNOTS : 0);
        }
        trialShip.rowOn(passage, crew);
        return rankOfTrial();
    }

    /** The less, the better: any voyage that is THROUGH comes ahead of any other. */
    private int rankOfTrial() {
        int lost = trialShip.lostOf(crew);
        return trialShip.how == THROUGH ? lost : lost + RANKS_OF_A_KIND;
    }

    /** How many sets of men with wax, those of the asked ones in them, agree with the log. */
    private int fittingSetsWith(int asked) {
        int fitting = 0;
        for (int set = 0; set <= crew.everyone(); set++) {
            if ((set & asked) == asked && isFitting(set)) {
                fitting++;
            }
        }
        return fitting;
    }

    private boolean isFitting(int set) {
        trialShip.copy(ship);
        trialShip.startWith(crew.everyone());
        trialShip.waxed = set;
        for (int told = 0; told < log.size; told++) {
            int swam = trialShip.how == UNDER_WAY ? trialShip.row(passage, crew) : 0;
            if (swam != log.setAt(told)) {
                return false;
            }
        }
        return true;
    }

    private static boolean isKind(int kind) {
        return kind >= MAN && kind <= MATE;
    }

    private static int asInt(boolean is) {
        return is ? 1 : 0;
    }

    /** The letters that came and are not read yet. */
    private static final class Page {
        private final int[] letters = new int[MOST_LETTERS];
        int size;

        void add(int code) {
            if (size >= 0 && size < letters.length) {
                letters[size] = code;
                size++;
            }
        }

        int codeAt(int index) {
            return index >= 0 && index < letters.length ? letters[index] : 0;
        }

        boolean isPassage() {
            return size > HEAD_LETTERS && firstFault() == size && !isSong(codeAt(size - 1));
        }

        int firstFault() {
            int places = 0;
            boolean isStrengthDue = false;
            for (int index = 0; index < size; index++) {
                int code = codeAt(index);
                if (index < HEAD_LETTERS) {
                    if (!isInHead(index, code)) {
                        return index;
                    }
                } else if (isStrengthDue) {
                    if (code < '1' || code > '9') {
                        return index;
                    }
                    isStrengthDue = false;
                } else if (places >= MOST_PLACES || !beginsPlace(code)) {
                    return index;
                } else {
                    places++;
                    isStrengthDue = isSong(code);
                }
            }
            return size;
        }

        private boolean isInHead(int index, int code) {
            switch (index) {
                case 0: return code >= '0' && code <= '4';
                case 1: return code >= '0' && code <= (codeAt(0) == '4' ? '5' : '9');
                case 2: return code >= '1' && code <= '9';
                default: return code == ':';
            }
        }

        private static boolean beginsPlace(int code) {
            return code == '.' || code == 'r' || code == 'e' || isSong(code);
        }

        private static boolean isSong(int code) {
            return code == 's' || code == 'b';
        }
    }

    /** Places with their songs and rocks, and what the whole of them asks; no places: there is none. */
    private static final class Passage {
        private final int[] songs = new int[MOST_PLACES];
        private final int[] rocks = new int[MOST_PLACES];
        int need;
        int noon;
        int size;

        void read(Page page) {
            need = 10 * (page.codeAt(0) - '0') + page.codeAt(1) - '0';
            noon = page.codeAt(2) - '0';
            size = 0;
            for (int index = HEAD_LETTERS; index < page.size; index++) {
                int code = page.codeAt(index);
                if (code >= '1' && code <= '9') {
                    setSong(size - 1, code - '0');
                } else {
                    addPlace(rockBy(code));
                }
            }
        }

        private static int rockBy(int code) {
            if (code == 'r' || code == 'b') {
                return RINGING_ROCK;
            }
            return code == 'e' ? SEEN_ROCK : NO_ROCK;
        }

        private void addPlace(int rock) {
            if (size >= 0 && size < MOST_PLACES) {
                songs[size] = 0;
                rocks[size] = rock;
                size++;
            }
        }

        private void setSong(int place, int strength) {
            if (place >= 0 && place < MOST_PLACES) {
                songs[place] = strength;
            }
        }

        int songAt(int place) {
            return place >= 0 && place < MOST_PLACES ? songs[place] : 0;
        }

        int rockAt(int place) {
            return place >= 0 && place < MOST_PLACES ? rocks[place] : NO_ROCK;
        }

        void copyWeaker(Passage other, int less) {
            copy(other);
            for (int place = 0; place < size; place++) {
                setSong(place, Math.max(0, songAt(place) - less));
            }
        }

        /** Each song's strength is drawn anew: the seed behind the last draw. */
        int copyDrawn(Passage other, int seed) {
            copy(other);
            int next = seed;
            for (int place = 0; place < size; place++) {
                if (songAt(place) > 0) {
                    next = seedAfter(next);
                    setSong(place, next / 65536 % 10);
                }
            }
            return next;
        }

        private static int seedAfter(int seed) {
            return (int) ((1103515245L * seed + 12345L) % 2147483648L);
        }

        private void copy(Passage other) {
            System.arraycopy(other.songs, 0, songs, 0, MOST_PLACES);
            System.arraycopy(other.rocks, 0, rocks, 0, MOST_PLACES);
            need = other.need;
            noon = other.noon;
            size = other.size;
        }
    }

    /** What stays the same of the men, wherever they are. */
    private static final class Crew {
        private final int[] kinds = new int[MOST_MEN];
        private final int[] oars = new int[MOST_MEN];
        private final int[] wills = new int[MOST_MEN];
        int size;

        void add(int kind, int oar, int will) {
            if (size >= 0 && size < MOST_MEN) {
                kinds[size] = kind;
                oars[size] = oar;
                wills[size] = will;
                size++;
            }
        }

        int kindOf(int man) {
            return man >= 0 && man < MOST_MEN ? kinds[man] : 0;
        }

        int oarOf(int man) {
            return man >= 0 && man < MOST_MEN ? oars[man] : 0;
        }

        int willOf(int man) {
            return man >= 0 && man < MOST_MEN ? wills[man] : 0;
        }

        boolean isOfKind(int man, int kind) {
            int own = kindOf(man);
            return kind == MAN || own == kind || (kind == SAILOR && own == MATE);
        }

        /** All men that there are, as bits. */
        int everyone() {
            return (1 << size) - 1;
        }
    }

    /** What changes while a crew rows: on the voyage itself, in an image, in a trial. */
    private static final class Ship {
        private final int[] knots = new int[MOST_MEN];
        int waxed;
        int aboard;
        int place;
        int strokes;
        int how;

        void copy(Ship other) {
            System.arraycopy(other.knots, 0, knots, 0, MOST_MEN);
            waxed = other.waxed;
            aboard = other.aboard;
            place = other.place;
            strokes = other.strokes;
            how = other.how;
        }

        /** At the first place, ahead of the first stroke; wax and knots stay. */
        void startWith(int men) {
            aboard = men;
            place = 0;
            strokes = 0;
            how = UNDER_WAY;
        }

        void board(int man) {
            aboard |= 1 << man;
            setWax(man, false);
            setKnots(man, 0);
        }

        boolean isAboard(int man) {
            return (aboard & (1 << man)) != 0;
        }

        boolean isWaxed(int man) {
            return (waxed & (1 << man)) != 0;
        }

        void setWax(int man, boolean is) {
            waxed = is ? waxed | (1 << man) : waxed & ~(1 << man);
        }

        int knotsOf(int man) {
            return man >= 0 && man < MOST_MEN ? knots[man] : 0;
        }

        void setKnots(int man, int number) {
            if (man >= 0 && man < MOST_MEN) {
                knots[man] = number;
            }
        }

        int lostOf(Crew crew) {
            return crew.size - Integer.bitCount(aboard);
        }

        boolean isHearing(int man, Passage passage, Crew crew) {
            return crew.kindOf(man) != DEAF && (!isWaxed(man) || strokes >= passage.noon);
        }

        int holdOn(int man, Crew crew) {
            int each = crew.kindOf(man) == MATE ? 3 : 2;
            return crew.willOf(man) + each * knotsOf(man);
        }

        /** Strokes until it is over, MOST_STROKES at most: how many were done. */
        int rowOn(Passage passage, Crew crew) {
            int done = 0;
            while (done < MOST_STROKES && how == UNDER_WAY) {
                row(passage, crew);
                done++;
            }
            return done;
        }

        /** One stroke: who swam, as bits. With nobody aboard it is over ahead of the rock and the oars. */
        int row(Passage passage, Crew crew) {
            int swimmers = swimmersAt(passage, crew);
            aboard &= ~swimmers;
            if (aboard == 0) {
                how = DRIFTING;
            } else if (isStriking(passage.rockAt(place), passage, crew)) {
                aboard = 0;
                how = STRUCK;
            } else if (freeOars(crew) >= passage.need) {
                comeOn(passage);
            }
            strokes++;
            return swimmers;
        }

        private void comeOn(Passage passage) {
            if (place + 1 < passage.size) {
                place++;
            } else {
                how = THROUGH;
            }
        }

        private int swimmersAt(Passage passage, Crew crew) {
            int strength = passage.songAt(place);
            int swimmers = 0;
            for (int man = 0; man < crew.size; man++) {
                int pull = crew.kindOf(man) == OLD ? strength / 2 : strength;
                if (isAboard(man) && isHearing(man, passage, crew) && holdOn(man, crew) < pull) {
                    swimmers |= 1 << man;
                }
            }
            return swimmers;
        }

        /** It strikes unless one aboard hears the rock, or a free sailor sees it. */
        private boolean isStriking(int rock, Passage passage, Crew crew) {
            if (rock == NO_ROCK) {
                return false;
            }
            for (int man = 0; man < crew.size; man++) {
                if (rock == RINGING_ROCK && isAboard(man) && isHearing(man, passage, crew)) {
                    return false;
                }
                if (rock == SEEN_ROCK && isFree(man) && crew.isOfKind(man, SAILOR)) {
                    return false;
                }
            }
            return true;
        }

        private int freeOars(Crew crew) {
            int oars = 0;
            for (int man = 0; man < crew.size; man++) {
                if (isFree(man)) {
                    oars += crew.oarOf(man);
                }
            }
            return oars;
        }

        private boolean isFree(int man) {
            return isAboard(man) && knotsOf(man) == 0;
        }
    }

    /** Who swam in each stroke, as it is told. */
    private static final class Log {
        private final int[] sets = new int[MOST_TOLD];
        int size;

        void add(int set) {
            if (size >= 0 && size < MOST_TOLD) {
                sets[size] = set;
                size++;
            }
        }

        int setAt(int index) {
            return index >= 0 && index < MOST_TOLD ? sets[index] : 0;
        }

        void copy(Log other) {
            System.arraycopy(other.sets, 0, sets, 0, MOST_TOLD);
            size = other.size;
        }
    }
}
