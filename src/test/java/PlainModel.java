import java.util.ArrayList;
import java.util.HashSet;
import java.util.List;
import java.util.Set;
import java.util.regex.Matcher;
import java.util.regex.Pattern;

/** The document told once more, by other means than the program's: what a run of calls answers. */
final class PlainModel {
    private static final int NONE = -1, UNKNOWN = -101, OUTSIDE = -102, STATE = -103, FULL = -104;
    private static final Pattern PASSAGE = Pattern.compile("([0-3][0-9]|4[0-5])([1-9]):(?:[.re]|[sb][1-9]){1,12}");

    private static final class Man implements Cloneable {
        String kind;
        int oar;
        int will;
        int knots;
        boolean wax;
        boolean lost;

        Man copy() {
            try {
                return (Man) clone();
            } catch (CloneNotSupportedException e) {
                throw new IllegalStateException(e);
            }
        }

        int held() {
            return will + knots * (kind.equals("MATE") ? 3 : 2);
        }

        boolean isSailor() {
            return kind.equals("SAILOR") || kind.equals("MATE");
        }
    }

    private static final class Voyage {
        List<Man> men = new ArrayList<>();
        List<String> places = new ArrayList<>();
        int need;
        int noon;
        int place;
        int stroke;
        String how = "";

        Voyage copy() {
            Voyage v = new Voyage();
            men.forEach(m -> v.men.add(m.copy()));
            v.places = new ArrayList<>(places);
            v.need = need;
            v.noon = noon;
            v.place = place;
            v.stroke = stroke;
            v.how = how;
            return v;
        }

        boolean hears(Man m) {
            if (m.kind.equals("DEAF")) {
                return false;
            }
            return stroke >= noon || !m.wax;
        }

        int strength(int at) {
            String p = places.get(at);
            return p.length() > 1 ? Integer.parseInt(p.substring(1)) : 0;
        }

        long lost() {
            return men.stream().filter(m -> m.lost).count();
        }

        Set<Integer> step() {
            Set<Integer> swam = new HashSet<>();
            double song = strength(place);
            for (Man m : men) {
                double against = m.kind.equals("OLD") ? Math.floor(song / 2) : song;
                if (song > 0 && !m.lost && hears(m) && m.held() < against) {
                    swam.add(men.indexOf(m));
                }
            }
            swam.forEach(i -> men.get(i).lost = true);
            if (lost() == men.size()) {
                how = "DRIFTING";
                stroke++;
                return swam;
            }
            char rock = places.get(place).charAt(0);
            boolean heard = men.stream().anyMatch(m -> !m.lost && hears(m));
            boolean seen = men.stream().anyMatch(m -> !m.lost && m.isSailor() && m.knots == 0);
            int oars = men.stream().filter(m -> !m.lost && m.knots == 0).mapToInt(m -> m.oar).sum();
            if ((rock == 'r' || rock == 'b') && !heard || rock == 'e' && !seen) {
                men.forEach(m -> m.lost = true);
                how = "STRUCK";
            } else if (oars >= need) {
                if (place == places.size() - 1) {
                    how = "THROUGH";
                } else {
                    place++;
                }
            }
            stroke++;
            return swam;
        }

        int goOn() {
            int from = stroke;
            while (stroke - from < 30 && how.isEmpty()) {
                step();
            }
            return stroke - from;
        }

        void again() {
            men.forEach(m -> m.lost = false);
            place = 0;
            stroke = 0;
            how = "";
        }
    }

    private String page = "";
    private Voyage now;
    private List<Set<Integer>> log = new ArrayList<>();
    private Voyage keptVoyage;
    private List<Set<Integer>> keptLog;
    private int read;

    private static Set<Integer> setOf(int bits) {
        Set<Integer> set = new HashSet<>();
        for (int i = 0; i < 31; i++) {
            if ((bits >> i & 1) == 1) {
                set.add(i);
            }
        }
        return set;
    }

    private static int howOf(Voyage v) {
        return List.of("", "THROUGH", "STRUCK", "DRIFTING").indexOf(v.how);
    }

    private boolean no(int man) {
        return now == null || man < 0 || man >= now.men.size();
    }

    private boolean noMen() {
        return now == null || now.men.isEmpty();
    }

    private boolean ended() {
        return noMen() || !now.how.isEmpty();
    }

    int letter(int code) {
        if (code < 32 || code > 126) {
            return OUTSIDE;
        }
        if (page.length() == 30) {
            return FULL;
        }
        page += (char) code;
        return page.length();
    }

    int blank() {
        int had = page.length();
        page = "";
        return had;
    }

    int fault() {
        for (int end = 1; end <= page.length(); end++) {
            Matcher m = PASSAGE.matcher(page.substring(0, end));
            if (!m.matches() && !m.hitEnd()) {
                return end - 1;
            }
        }
        return page.length();
    }

    int passage() {
        Matcher m = PASSAGE.matcher(page);
        if (!m.matches()) {
            return STATE;
        }
        now = new Voyage();
        now.need = Integer.parseInt(m.group(1));
        now.noon = Integer.parseInt(m.group(2));
        Matcher places = Pattern.compile("[.re]|[sb][1-9]").matcher(page.substring(4));
        while (places.find()) {
            now.places.add(places.group());
        }
        log = new ArrayList<>();
        keptVoyage = null;
        page = "";
        read++;
        return now.places.size();
    }

    int place(int place, int what) {
        if (now == null || place < 0 || place >= now.places.size()) {
            return UNKNOWN;
        }
        if (what == 0) {
            return now.strength(place);
        }
        if (what != 1) {
            return OUTSIDE;
        }
        switch (now.places.get(place).charAt(0)) {
            case 'r': case 'b': return 1;
            case 'e': return 2;
            default: return 0;
        }
    }

    int man(int kind, int oar, int will) {
        if (kind < 0 || kind > 4 || oar < 1 || oar > 9 || will < 0 || will > 9) {
            return OUTSIDE;
        }
        if (now == null || now.place > 0 || now.stroke > 0) {
            return STATE;
        }
        if (now.men.size() == 5) {
            return FULL;
        }
        Man m = new Man();
        m.kind = List.of("MAN", "DEAF", "OLD", "SAILOR", "MATE").get(kind);
        m.oar = oar;
        m.will = will;
        now.men.add(m);
        return now.men.size() - 1;
    }

    int about(int man, int what) {
        if (no(man)) {
            return UNKNOWN;
        }
        Man m = now.men.get(man);
        switch (what) {
            case 0: return List.of("MAN", "DEAF", "OLD", "SAILOR", "MATE").indexOf(m.kind);
            case 1: return m.oar;
            case 2: return m.will;
            case 3: return m.wax ? 1 : 0;
            case 4: return m.knots;
            case 5: return m.lost ? 1 : 0;
            case 6: return now.hears(m) ? 1 : 0;
            case 7: return m.held();
            default: return OUTSIDE;
        }
    }

    int as(int man, int kind) {
        if (no(man)) {
            return UNKNOWN;
        }
        Man m = now.men.get(man);
        switch (kind) {
            case 0: return man;
            case 1: return m.kind.equals("DEAF") ? man : NONE;
            case 2: return m.kind.equals("OLD") ? man : NONE;
            case 3: return m.isSailor() ? man : NONE;
            case 4: return m.kind.equals("MATE") ? man : NONE;
            default: return OUTSIDE;
        }
    }

    int wax(int man, boolean is) {
        if (no(man)) {
            return UNKNOWN;
        }
        if (ended() || now.men.get(man).lost) {
            return STATE;
        }
        boolean had = now.men.get(man).wax;
        now.men.get(man).wax = is;
        return had ? 1 : 0;
    }

    int bind(int man, int knots) {
        if (no(man)) {
            return UNKNOWN;
        }
        if (knots < 0 || knots > 9) {
            return OUTSIDE;
        }
        if (ended() || now.men.get(man).lost) {
            return STATE;
        }
        int had = now.men.get(man).knots;
        now.men.get(man).knots = knots;
        return had;
    }

    int stroke() {
        if (ended()) {
            return STATE;
        }
        now.step();
        return now.how.isEmpty() ? now.place : NONE;
    }

    int outcome(int what) {
        if (what < 0 || what > 2) {
            return OUTSIDE;
        }
        if (ended()) {
            return STATE;
        }
        Voyage v = now.copy();
        int done = v.goOn();
        return what == 0 ? (int) v.lost() : what == 1 ? done : howOf(v);
    }

    /** Numbers that are smaller, one behind the other, for a better end. */
    private static String worth(Voyage v) {
        v.goOn();
        return (v.how.equals("THROUGH") ? "a" : "b") + v.lost();
    }

    int waxing(int pieces, int what) {
        if (pieces < 0 || pieces > 5 || what < 0 || what > 1) {
            return OUTSIDE;
        }
        if (ended()) {
            return STATE;
        }
        String best = "z";
        for (int bits = 0; bits < 1 << now.men.size(); bits++) {
            Set<Integer> to = setOf(bits);
            if (to.size() <= pieces && to.stream().noneMatch(i -> now.men.get(i).lost)) {
                Voyage v = now.copy();
                v.men.forEach(m -> m.wax = to.contains(v.men.indexOf(m)));
                String worth = worth(v) + to.size() + String.format("%02d", bits);
                best = worth.compareTo(best) < 0 ? worth : best;
            }
        }
        return what == 0 ? best.charAt(1) - '0' : Integer.parseInt(best.substring(3));
    }

    int hold(int man) {
        if (no(man)) {
            return UNKNOWN;
        }
        if (ended() || now.men.get(man).lost) {
            return STATE;
        }
        for (int knots = 0; knots < 10; knots++) {
            Voyage v = now.copy();
            v.men.get(man).knots = knots;
            v.goOn();
            if (!v.men.get(man).lost) {
                return knots;
            }
        }
        return NONE;
    }

    int listener() {
        if (ended()) {
            return STATE;
        }
        String best = "z";
        for (int listener = 0; listener < now.men.size(); listener++) {
            if (!now.men.get(listener).lost) {
                Voyage v = now.copy();
                for (Man m : v.men) {
                    boolean is = m == v.men.get(listener);
                    m.knots = is ? 9 : 0;
                    m.wax = !is;
                }
                String worth = worth(v) + listener;
                best = worth.compareTo(best) < 0 ? worth : best;
            }
        }
        return best.charAt(2) - '0';
    }

    int sold() {
        if (ended()) {
            return STATE;
        }
        for (int less = 0; less < 10; less++) {
            Voyage v = now.copy();
            for (int i = 0; i < v.places.size(); i++) {
                if (v.strength(i) > 0) {
                    v.places.set(i, v.places.get(i).charAt(0) + "" + Math.max(v.strength(i) - less, 0));
                }
            }
            v.goOn();
            if (v.lost() == now.lost()) {
                return less;
            }
        }
        return NONE;
    }

    int log(int set) {
        if (set < 0 || set >= 1 << (now == null ? 0 : now.men.size())) {
            return OUTSIDE;
        }
        if (log.size() == 8) {
            return FULL;
        }
        log.add(setOf(set));
        return log.size();
    }

    int forget() {
        int had = log.size();
        log.clear();
        return had;
    }

    private List<Set<Integer>> fitting() {
        List<Set<Integer>> all = new ArrayList<>();
        for (int bits = 0; bits < 1 << now.men.size(); bits++) {
            Set<Integer> with = setOf(bits);
            Voyage v = now.copy();
            v.again();
            v.men.forEach(m -> m.wax = with.contains(v.men.indexOf(m)));
            List<Set<Integer>> swam = new ArrayList<>();
            while (swam.size() < log.size()) {
                swam.add(v.how.isEmpty() ? v.step() : Set.of());
            }
            if (swam.equals(log)) {
                all.add(with);
            }
        }
        return all;
    }

    int fits() {
        return noMen() ? STATE : fitting().size();
    }

    int sure(int man) {
        if (no(man)) {
            return UNKNOWN;
        }
        List<Set<Integer>> all = fitting();
        if (all.isEmpty()) {
            return NONE;
        }
        if (all.stream().allMatch(s -> s.contains(man))) {
            return 1;
        }
        return all.stream().noneMatch(s -> s.contains(man)) ? 0 : NONE;
    }

    int voyages(int voyages, int seed, int what) {
        if (voyages < 1 || voyages > 20 || seed < 0 || what < 0 || what > 2) {
            return OUTSIDE;
        }
        if (noMen()) {
            return STATE;
        }
        long next = seed;
        int through = 0;
        int lost = 0;
        for (int i = 0; i < voyages; i++) {
            Voyage v = now.copy();
            v.again();
            for (int at = 0; at < v.places.size(); at++) {
                if (v.strength(at) > 0) {
                    next = Long.remainderUnsigned(1103515245L * next + 12345, 1L << 31);
                    v.places.set(at, v.places.get(at).charAt(0) + "" + (next >>> 16) % 10);
                }
            }
            v.goOn();
            through += v.how.equals("THROUGH") ? 1 : 0;
            lost += v.lost();
        }
        return what == 0 ? through : what == 1 ? lost : (int) next;
    }

    int image() {
        if (now == null) {
            return STATE;
        }
        keptVoyage = now.copy();
        keptLog = new ArrayList<>(log);
        return now.stroke;
    }

    int restore() {
        if (keptVoyage == null) {
            return STATE;
        }
        now = keptVoyage.copy();
        log = new ArrayList<>(keptLog);
        return now.stroke;
    }

    int count(int what) {
        Voyage v = now == null ? new Voyage() : now;
        switch (what) {
            case 0: return v.places.size();
            case 1: return v.need;
            case 2: return v.noon;
            case 3: return v.men.size();
            case 4: return (int) v.lost();
            case 5: return v.place;
            case 6: return v.stroke;
            case 7: return howOf(v);
            case 8: return log.size();
            case 9: return page.length();
            case 10: return read;
            default: return OUTSIDE;
        }
    }

    long digest() {
        List<Integer> numbers = new ArrayList<>();
        for (int i = 0; i < count(0); i++) {
            numbers.addAll(List.of(place(i, 0), place(i, 1)));
        }
        for (int i = 0; i < count(3); i++) {
            for (int what = 0; what < 8; what++) {
                numbers.add(about(i, what));
            }
        }
        if (!ended()) {
            numbers.addAll(List.of(outcome(0), outcome(1), outcome(2), waxing(2, 0), waxing(2, 1), listener(), sold()));
        }
        if (!noMen()) {
            numbers.add(fits());
        }
        page.chars().forEach(numbers::add);
        for (int what = 0; what < 11; what++) {
            numbers.add(count(what));
        }
        long h = 757;
        for (int number : numbers) {
            h = h * 31 + number;
        }
        return h;
    }
}
