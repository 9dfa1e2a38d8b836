import java.nio.charset.StandardCharsets;
import java.util.ArrayList;
import java.util.Arrays;
import java.util.Comparator;
import java.util.HashMap;
import java.util.List;
import java.util.Map;
import java.util.TreeSet;

/** The document's words once more, written apart from the program and as naively as can be. */
final class Model {
    static final int NONE = -1;

    /** A parish in a state. */
    static final class Parish {
        int quota = 10;
        int price = 10;
        List<int[]> houses = new ArrayList<>();
        TreeSet<Integer> offices = new TreeSet<>();
        List<int[]> rules = new ArrayList<>();
        TreeSet<Integer> cut = new TreeSet<>();
        int year;
        int paid;
        int lost;
        int lastPaid;
        int ruined = NONE;
        boolean changed;

        Parish copy() {
            Parish p = new Parish();
            p.quota = quota;
            p.price = price;
            for (int[] house : houses) {
                p.houses.add(house.clone());
            }
            p.offices.addAll(offices);
            p.rules.addAll(rules);
            p.cut.addAll(cut);
            p.year = year;
            p.paid = paid;
            p.lost = lost;
            return p;
        }

        boolean[] exempt() {
            boolean[] is = new boolean[houses.size()];
            for (int h : offices) {
                is[h] = true;
            }
            for (boolean more = true; more;) {
                more = false;
                for (int r = 0; r < rules.size(); r++) {
                    int[] rule = rules.get(r);
                    boolean holds = !cut.contains(r);
                    for (int i = 1; i < rule.length; i++) {
                        holds &= is[rule[i]];
                    }
                    if (holds && !is[rule[0]]) {
                        is[rule[0]] = true;
                        more = true;
                    }
                }
            }
            return is;
        }

        int exemptBits() {
            return bits(exempt());
        }

        boolean nobodyPays() {
            boolean[] is = exempt();
            int sum = 0;
            for (int h = 0; h < houses.size(); h++) {
                sum += is[h] ? 0 : houses.get(h)[0];
            }
            return sum == 0;
        }

        int[] tax() {
            int[] tax = new int[houses.size()];
            if (nobodyPays()) {
                return tax;
            }
            boolean[] is = exempt();
            List<Integer> payers = new ArrayList<>();
            int sum = 0;
            for (int h = 0; h < tax.length; h++) {
                if (!is[h]) {
                    payers.add(h);
                    sum += houses.get(h)[0];
                }
            }
            int left = quota;
            int all = sum;
            for (int h : payers) {
                tax[h] = quota * houses.get(h)[0] / all;
                left -= tax[h];
            }
            payers.sort(Comparator.comparingInt((Integer h) -> -(quota * houses.get(h)[0] % all)).thenComparing(h -> h));
            for (int i = 0; i < left; i++) {
                tax[payers.get(i)]++;
            }
            return tax;
        }

        void oneYear() {
            int[] tax = tax();
            lastPaid = 0;
            ruined = NONE;
            changed = false;
            if (nobodyPays()) {
                lost += quota;
            }
            for (int h = houses.size() - 1; h >= 0; h--) {
                int[] house = houses.get(h);
                int old = house[0];
                if (tax[h] > old) {
                    ruined = h;
                    lost += tax[h] - old;
                    lastPaid += old;
                    house[0] = 0;
                } else {
                    lastPaid += tax[h];
                    house[0] -= tax[h];
                }
                house[0] += house[1];
                if (house[0] > 99) {
                    house[0] = 99;
                }
                changed |= house[0] != old;
            }
            paid += lastPaid;
            year++;
        }

        boolean act(int kind, int n) {
            switch (kind) {
                case 0:
                    if (year == 50) {
                        return false;
                    }
                    oneYear();
                    return true;
                case 1:
                    if (n >= houses.size() || offices.contains(n) || houses.get(n)[0] < price) {
                        return false;
                    }
                    houses.get(n)[0] -= price;
                    return offices.add(n);
                case 2:
                    return offices.remove(n);
                case 3: {
                    boolean another = quota != n;
                    quota = n;
                    return another;
                }
                case 4: {
                    boolean another = price != n;
                    price = n;
                    return another;
                }
                default:
                    return n < rules.size() && cut.add(n);
            }
        }

        int state(int what) {
            int size = houses.size();
            if (what >= 10 && what < 10 + size) {
                return houses.get(what - 10)[0];
            }
            if (what >= 20 && what < 20 + size) {
                return tax()[what - 20];
            }
            switch (what) {
                case 0: return year;
                case 1: return paid;
                case 2: return lost;
                case 3: return bits(offices);
                case 4: return exemptBits();
                case 5: return quota;
                case 6: return price;
                case 7: return bits(cut);
                default: return -2;
            }
        }

        int extreme(boolean rich) {
            int best = NONE;
            for (int h = houses.size() - 1; h >= 0; h--) {
                if (best == NONE || (rich ? houses.get(h)[0] >= houses.get(best)[0] : houses.get(h)[0] <= houses.get(best)[0])) {
                    best = h;
                }
            }
            return best;
        }
    }

    static int bits(boolean[] set) {
        int bits = 0;
        for (int i = 0; i < set.length; i++) {
            bits += set[i] ? 1 << i : 0;
        }
        return bits;
    }

    static int bits(Iterable<Integer> set) {
        int bits = 0;
        for (int i : set) {
            bits |= 1 << i;
        }
        return bits;
    }

    static TreeSet<Integer> set(int bits) {
        TreeSet<Integer> set = new TreeSet<>();
        for (int i = 0; i < 20; i++) {
            if ((bits & 1 << i) != 0) {
                set.add(i);
            }
        }
        return set;
    }

    static int gcd(int a, int b) {
        return b == 0 ? a : gcd(b, a % b);
    }

    static int part(int over, int under, boolean lower) {
        int g = gcd(over, under);
        return lower ? under / g : over / g;
    }

    // ---- all that is told ----

    static final class Told {
        byte[] tape = new byte[0];
        List<Parish> parishes = new ArrayList<>();
        List<List<int[]>> years = new ArrayList<>();
        List<List<int[]>> logs = new ArrayList<>();
        int fault = 0;
        int place = NONE;

        Told copy() {
            Told t = new Told();
            t.tape = tape.clone();
            t.parishes.addAll(parishes);
            t.years.addAll(years);
            t.logs.addAll(logs);
            t.fault = fault;
            t.place = place;
            return t;
        }
    }

    Told told = new Told();
    final Map<Integer, Told> images = new HashMap<>();

    int feed(int a, int b, int c, int d, int e) {
        int n = told.tape.length;
        if (n + 20 > 600) {
            return NONE;
        }
        byte[] more = Arrays.copyOf(told.tape, n + 20);
        int[] words = {a, b, c, d, e};
        for (int i = 0; i < 20; i++) {
            more[n + i] = (byte) (words[i / 4] >> 8 * (3 - i % 4));
        }
        told.tape = more;
        return n + 20;
    }

    int end(int n) {
        if (n < 0 || n > told.tape.length) {
            return NONE;
        }
        told.tape = Arrays.copyOf(told.tape, n);
        return n;
    }

    private List<?> list(int sort) {
        return sort == 0 ? told.parishes : sort == 1 ? told.years : told.logs;
    }

    int count(int sort) {
        return sort < 0 || sort > 2 ? -2 : list(sort).size();
    }

    int text(int sort, int at) {
        String s = new String(told.tape, StandardCharsets.ISO_8859_1);
        told.tape = new byte[0];
        told.fault = 0;
        told.place = NONE;
        if (sort < 0 || sort > 2 || at < -1 || at >= list(sort).size() || at == -1 && list(sort).size() == 2) {
            return -2;
        }
        List<List<String>> lines = new ArrayList<>();
        List<List<Integer>> places = new ArrayList<>();
        int broken = split(s, sort, lines, places);
        if (broken >= 0) {
            told.fault = 1;
            told.place = broken;
            return NONE;
        }
        List<int[]> faults = new ArrayList<>();
        Parish parish = new Parish();
        List<int[]> pairs = new ArrayList<>();
        gather(sort, lines, places, faults, parish, pairs);
        if (!faults.isEmpty()) {
            faults.sort(Comparator.comparingInt((int[] f) -> f[1]).thenComparingInt(f -> f[0]));
            told.fault = faults.get(0)[0];
            told.place = faults.get(0)[1];
            return NONE;
        }
        if (sort == 0 && tellsOfAbsent(parish)) {
            told.fault = 4;
            told.place = s.length();
            return NONE;
        }
        if (sort == 0) {
            return put(told.parishes, at, parish);
        }
        return put(sort == 1 ? told.years : told.logs, at, pairs);
    }

    private static <T> int put(List<T> list, int at, T it) {
        if (at == NONE) {
            list.add(it);
            return list.size() - 1;
        }
        list.set(at, it);
        return at;
    }

    private static boolean tellsOfAbsent(Parish p) {
        boolean absent = false;
        for (int h : p.offices) {
            absent |= h >= p.houses.size();
        }
        for (int[] rule : p.rules) {
            for (int h : rule) {
                absent |= h >= p.houses.size();
            }
        }
        return absent;
    }

    private static final String[][] FORMS = {
        {"quota N", "price N", "office N", "house N N", "tie N N", "pact N N N"},
        {"year", "buy N", "lose N", "quota N", "price N", "cut N"},
        {"paid N N"}
    };

    /** The lines' tokens and their places; the place of FAULT 1, or -1. */
    private static int split(String s, int sort, List<List<String>> lines, List<List<Integer>> places) {
        List<String> line = new ArrayList<>();
        List<Integer> place = new ArrayList<>();
        String form = "";
        int at = 0;
        while (true) {
            while (at < s.length() && (s.charAt(at) == ' ' || s.charAt(at) == '\n')) {
                at++;
            }
            if (at == s.length()) {
                return line.isEmpty() ? -1 : at;
            }
            int to = at + 1;
            String kind = s.substring(at, to);
            if (kind.matches("[a-z]")) {
                while (to < s.length() && s.substring(to, to + 1).matches("[a-z]")) {
                    to++;
                }
            } else if (kind.matches("[0-9]")) {
                while (to < s.length() && s.substring(to, to + 1).matches("[0-9]")) {
                    to++;
                }
                if (to - at > 2) {
                    return at;
                }
            } else if (!kind.equals(";")) {
                return at;
            }
            String token = s.substring(at, to);
            String next = token.matches("[0-9]+") ? "N" : token;
            form = form.isEmpty() ? next : form + " " + next;
            boolean goesOn = false;
            for (String f : FORMS[sort]) {
                goesOn |= (f + " ; ").startsWith(form + " ");
            }
            if (!goesOn) {
                return at;
            }
            if (token.equals(";")) {
                lines.add(line);
                places.add(place);
                line = new ArrayList<>();
                place = new ArrayList<>();
                form = "";
            } else {
                line.add(token);
                place.add(at);
            }
            at = to;
        }
    }

    private static void gather(int sort, List<List<String>> lines, List<List<Integer>> places, List<int[]> faults,
                               Parish parish, List<int[]> pairs) {
        int houses = 0;
        int rules = 0;
        for (int i = 0; i < lines.size(); i++) {
            List<String> line = lines.get(i);
            String word = line.get(0);
            int[] n = new int[line.size() - 1];
            for (int k = 0; k < n.length; k++) {
                n[k] = Integer.parseInt(line.get(k + 1));
                boolean bad = n[k] > greatest(sort, word, k);
                for (int j = 0; j < k && (word.equals("tie") || word.equals("pact")); j++) {
                    bad |= n[j] == n[k];
                }
                if (bad) {
                    faults.add(new int[] {2, places.get(i).get(k + 1)});
                }
            }
            boolean full = sort == 1 && i >= 40 || sort == 2 && i >= 8;
            if (word.equals("house")) {
                full = ++houses > 7;
                parish.houses.add(n);
            } else if (word.equals("tie") || word.equals("pact")) {
                full = ++rules > 10;
                parish.rules.add(n);
            } else if (word.equals("office")) {
                parish.offices.add(n[0]);
            } else if (sort == 0 && word.equals("quota")) {
                parish.quota = n[0];
            } else if (sort == 0) {
                parish.price = n[0];
            }
            if (full) {
                faults.add(new int[] {3, places.get(i).get(0)});
            }
            if (sort == 1) {
                int kind = List.of("year", "buy", "lose", "quota", "price", "cut").indexOf(word);
                pairs.add(new int[] {kind, kind == 0 ? NONE : n[0]});
            }
            if (sort == 2) {
                pairs.add(n);
            }
        }
    }

    private static int greatest(int sort, String word, int k) {
        switch (word) {
            case "quota":
            case "price":
                return 99;
            case "house":
                return k == 0 ? 99 : 9;
            case "cut":
                return 9;
            case "paid":
                return k == 0 ? 6 : 99;
            default:
                return 6;
        }
    }

    int fault(int what) {
        return what == 0 ? told.fault : what == 1 ? told.place : NONE;
    }

    boolean image(int k) {
        if (k < 0 || k > 2) {
            return false;
        }
        images.put(k, told.copy());
        return true;
    }

    boolean again(int k) {
        if (!images.containsKey(k)) {
            return false;
        }
        told = images.get(k).copy();
        return true;
    }

    private Parish get(int parish) {
        return parish >= 0 && parish < told.parishes.size() ? told.parishes.get(parish).copy() : null;
    }

    private List<int[]> getYears(int k) {
        return k >= 0 && k < told.years.size() ? told.years.get(k) : null;
    }

    private List<int[]> getLog(int k) {
        return k >= 0 && k < told.logs.size() ? told.logs.get(k) : null;
    }

    private static boolean lacks(Parish p, int house) {
        return p == null || house < 0 || house >= p.houses.size();
    }

    // ---- promises 6 to 9, 20, 22, 32 ----

    int parish(int parish, int what) {
        Parish p = get(parish);
        if (p == null || what < 0) {
            return NONE;
        }
        int tens = what / 10;
        int ones = what % 10;
        if (tens >= 1 && tens <= 3) {
            return lacks(p, ones) ? NONE : tens == 3 ? p.tax()[ones] : p.houses.get(ones)[tens - 1];
        }
        if (tens >= 4 && tens <= 6) {
            if (ones >= p.rules.size()) {
                return NONE;
            }
            int[] rule = p.rules.get(ones);
            return tens - 4 < rule.length ? rule[tens - 4] : NONE;
        }
        switch (what) {
            case 0: return p.quota;
            case 1: return p.price;
            case 2: return p.houses.size();
            case 3: return p.rules.size();
            case 4: return bits(p.offices);
            case 5: return p.exemptBits();
            case 6: return Arrays.stream(p.tax()).sum() == 0 ? p.quota : 0;
            default: return NONE;
        }
    }

    private static int pair(List<int[]> list, int k, int what) {
        if (list == null) {
            return -2;
        }
        if (k == -1) {
            return what == 0 ? list.size() : -2;
        }
        return k < 0 || k >= list.size() || what < 0 || what > 1 ? -2 : list.get(k)[what];
    }

    int deed(int years, int k, int what) {
        return pair(getYears(years), k, what);
    }

    int fact(int log, int k, int what) {
        return pair(getLog(log), k, what);
    }

    int stop(int parish, int years) {
        Parish p = get(parish);
        List<int[]> deeds = getYears(years);
        if (p == null || deeds == null) {
            return NONE;
        }
        int n = 0;
        while (n < deeds.size() && p.act(deeds.get(n)[0], deeds.get(n)[1])) {
            n++;
        }
        return n;
    }

    int state(int parish, int years, int n, int what) {
        int stop = stop(parish, years);
        if (stop == NONE || n < 0 || n > stop) {
            return -2;
        }
        Parish p = get(parish);
        for (int[] deed : getYears(years).subList(0, n)) {
            p.act(deed[0], deed[1]);
        }
        return p.state(what);
    }

    int after(int parish, int years, int what) {
        int stop = stop(parish, years);
        if (stop == NONE || what < 0 || what > 4) {
            return -2;
        }
        int sold = 0;
        int first = NONE;
        int peak = Integer.bitCount(get(parish).exemptBits());
        int lean = NONE;
        int leanPaid = 1000;
        int[] bought = new int[7];
        for (int k = 0; k < stop; k++) {
            int[] deed = getYears(years).get(k);
            int paid = state(parish, years, k + 1, 1) - state(parish, years, k, 1);
            if (deed[0] == 0 && paid < leanPaid) {
                leanPaid = paid;
                lean = state(parish, years, k + 1, 0);
            }
            if (deed[0] == 1) {
                sold += state(parish, years, k, 10 + deed[1]) - state(parish, years, k + 1, 10 + deed[1]);
                bought[deed[1]]++;
            }
            if (first == NONE && state(parish, years, k + 1, 2) > 0) {
                first = k;
            }
            peak = Math.max(peak, Integer.bitCount(state(parish, years, k + 1, 4)));
        }
        int buyer = NONE;
        int most = Arrays.stream(bought).max().getAsInt();
        for (int h = 6; h >= 0 && most > 0; h--) {
            buyer = bought[h] == most ? h : buyer;
        }
        return new int[] {sold, first, peak, lean, buyer}[what];
    }

    int drawn(int parish, int seed, int n, int what) {
        Parish p = get(parish);
        if (p == null || n < 0 || n > 60) {
            return -2;
        }
        long[] x = {seed & 0xffffffffL};
        int[] kinds = {0, 0, 0, 0, 1, 1, 2, 3, 4, 5};
        for (int i = 0; i < n; i++) {
            int kind = kinds[draw(x, 10)];
            if (kind == 0) {
                p.act(0, NONE);
            } else if (kind <= 2) {
                if (!p.houses.isEmpty()) {
                    p.act(kind, draw(x, p.houses.size()));
                }
            } else {
                p.act(kind, draw(x, kind == 5 ? 10 : 100));
            }
        }
        return p.state(what);
    }

    private static int draw(long[] x, int below) {
        x[0] = (x[0] * 1103515245L + 12345L) & 0xffffffffL;
        return (int) (x[0] / 65536 % below);
    }

    // ---- promises 10 to 19 ----

    private static List<Integer> rush(Parish p, int n, int[] rounds) {
        List<Integer> bought = new ArrayList<>();
        int before;
        do {
            before = bought.size();
            for (int h = 0; h < p.houses.size(); h++) {
                if (!p.exempt()[h] && n * p.tax()[h] > p.price && p.act(1, h)) {
                    bought.add(h);
                }
            }
            rounds[0]++;
        } while (bought.size() > before);
        rounds[0]--;
        return bought;
    }

    int rush(int parish, int n, int what) {
        Parish p = get(parish);
        if (p == null || n < 1 || n > 9) {
            return NONE;
        }
        int[] rounds = {0};
        List<Integer> bought = rush(p, n, rounds);
        if (what >= 0 && what <= 2) {
            return new int[] {bits(p.offices), bought.size(), rounds[0]}[what];
        }
        if (what >= 10 && what < 20) {
            return what - 10 < bought.size() ? bought.get(what - 10) : NONE;
        }
        return what >= 20 && !lacks(p, what - 20) ? p.tax()[what - 20] : NONE;
    }

    int sale(int parish, int n, int what) {
        if (get(parish) == null || n < 1 || n > 9 || what < 0 || what > 2) {
            return NONE;
        }
        int[] best = {-1, -1, -1};
        for (int price = 99; price >= 0; price--) {
            Parish p = get(parish);
            p.price = price;
            int buyers = rush(p, n, new int[1]).size();
            if (price * buyers >= best[1]) {
                best = new int[] {price, price * buyers, buyers};
            }
        }
        return best[what];
    }

    int seeds(int parish, boolean which) {
        if (get(parish) == null) {
            return NONE;
        }
        int size = get(parish).houses.size();
        for (int few = 0; few <= size; few++) {
            for (int set = 0; set < 1 << size; set++) {
                Parish p = get(parish);
                p.offices.addAll(set(set));
                if (Integer.bitCount(set) == few && Integer.bitCount(p.exemptBits()) == size) {
                    return which ? set : few;
                }
            }
        }
        return -77;
    }

    int cuts(int parish, int house, boolean which) {
        Parish p = get(parish);
        if (lacks(p, house) || p.offices.contains(house) || !p.exempt()[house]) {
            return NONE;
        }
        for (int few = 1; few <= p.rules.size(); few++) {
            for (int set = 0; set < 1 << p.rules.size(); set++) {
                if (Integer.bitCount(set) == few) {
                    p.cut = set(set);
                    if (!p.exempt()[house]) {
                        return which ? set : few;
                    }
                }
            }
        }
        return -77;
    }

    int ruin(int parish, boolean who) {
        Parish p = get(parish);
        for (int year = 1; p != null && year <= 50; year++) {
            p.oneYear();
            if (p.ruined != NONE) {
                return who ? p.ruined : year;
            }
        }
        return NONE;
    }

    int bid(int parish, int n) {
        Parish p = get(parish);
        if (p == null || n < 0 || n > 50) {
            return NONE;
        }
        for (int i = 0; i < n; i++) {
            p.oneYear();
        }
        return p.paid;
    }

    int burden(int parish, int what) {
        Parish p = get(parish);
        if (p == null || what < 0 || what > 2) {
            return NONE;
        }
        int best = NONE;
        int[] tax = p.tax();
        for (int h = 0; h < tax.length; h++) {
            double part = tax[h] == 0 ? 0 : (double) tax[h] / p.houses.get(h)[0];
            double old = best == NONE ? 0 : (double) tax[best] / p.houses.get(best)[0];
            best = part > old + 1e-9 ? h : best;
        }
        return best == NONE ? NONE : what == 0 ? best : part(tax[best], p.houses.get(best)[0], what == 2);
    }

    int falls(int parish, int house, int k) {
        Parish p = get(parish);
        if (lacks(p, house)) {
            return NONE;
        }
        List<Integer> falls = new ArrayList<>();
        for (int q = 1; q <= 99; q++) {
            p.quota = q - 1;
            int old = p.tax()[house];
            p.quota = q;
            if (p.tax()[house] < old) {
                falls.add(q);
            }
        }
        return k == NONE ? falls.size() : k >= 0 && k < falls.size() ? falls.get(k) : NONE;
    }

    int strife(int parish, int a, int b, int n, boolean first) {
        Parish p = get(parish);
        if (lacks(p, a) || lacks(p, b) || a == b || n < 0 || n > 6) {
            return -999;
        }
        if (!first) {
            return play(p, a, b, n, 0);
        }
        if (n == 0) {
            return NONE;
        }
        Parish buys = p.copy();
        return buys.act(1, a) && play(buys, a, b, n, 1) > play(p, a, b, n, 1) ? 1 : 0;
    }

    private static int play(Parish p, int a, int b, int n, int turn) {
        if (turn == n) {
            Parish end = p.copy();
            end.oneYear();
            return end.houses.get(a)[0] - end.houses.get(b)[0];
        }
        int stays = play(p, a, b, n, turn + 1);
        Parish buys = p.copy();
        if (!buys.act(1, turn % 2 == 0 ? a : b)) {
            return stays;
        }
        int other = play(buys, a, b, n, turn + 1);
        return turn % 2 == 0 ? Math.max(stays, other) : Math.min(stays, other);
    }

    int lot(int parish, int k, int house, boolean under) {
        Parish p = get(parish);
        if (lacks(p, house) || k < 0 || k > p.houses.size()) {
            return NONE;
        }
        int[] sums = byLot(parish, k);
        return part(sums[house], sums[8], under);
    }

    int spared(int parish, int k, boolean under) {
        Parish p = get(parish);
        if (p == null || k < 0 || k > p.houses.size()) {
            return NONE;
        }
        int[] sums = byLot(parish, k);
        return part(sums[7], sums[8], under);
    }

    /** Of all sets: in how many each house is exempt; 7: these together; 8: the sets. */
    private int[] byLot(int parish, int k) {
        int[] sums = new int[9];
        for (int set = 0; set < 1 << get(parish).houses.size(); set++) {
            if (Integer.bitCount(set) == k) {
                Parish p = get(parish);
                p.offices.addAll(set(set));
                for (int h : set(p.exemptBits())) {
                    sums[h]++;
                    sums[7]++;
                }
                sums[8]++;
            }
        }
        return sums;
    }

    // ---- promises 23 to 31 ----

    int retinue(int parish, int house) {
        Parish p = get(parish);
        if (lacks(p, house)) {
            return NONE;
        }
        p.offices = set(1 << house);
        return p.exemptBits();
    }

    int chief(int parish, int what) {
        Parish p = get(parish);
        if (p == null || what < 0 || what > 6) {
            return -2;
        }
        int size = p.houses.size();
        int chief = NONE;
        int most = 0;
        int deepest = NONE;
        int ringed = 0;
        int lone = 0;
        for (int h = size - 1; h >= 0; h--) {
            int n = Integer.bitCount(retinue(parish, h));
            if (n >= most) {
                chief = h;
                most = n;
            }
            deepest = Math.max(deepest, rank(parish, h));
            ringed |= climbs(p, h, h, 0) ? 1 << h : 0;
            int house = h;
            lone |= p.rules.stream().anyMatch(r -> r[0] == house) ? 0 : 1 << h;
        }
        int keys = 0;
        int idle = 0;
        for (int r = 0; r < p.rules.size(); r++) {
            Parish less = p.copy();
            less.cut.add(r);
            keys |= Integer.bitCount(less.exemptBits()) < Integer.bitCount(p.exemptBits()) ? 1 << r : 0;
            boolean same = true;
            for (int set = 0; set < 1 << size; set++) {
                Parish with = p.copy();
                with.offices = set(set);
                less.offices = set(set);
                same &= with.exemptBits() == less.exemptBits();
            }
            idle |= same ? 1 << r : 0;
        }
        return new int[] {chief, most, keys, idle, ringed, lone, deepest}[what];
    }

    private static boolean climbs(Parish p, int from, int to, int depth) {
        if (depth > 7) {
            return false;
        }
        for (int[] rule : p.rules) {
            if (rule.length == 2 && rule[0] == from && (rule[1] == to || climbs(p, rule[1], to, depth + 1))) {
                return true;
            }
        }
        return false;
    }

    int rank(int parish, int house) {
        Parish p = get(parish);
        if (lacks(p, house) || !p.exempt()[house]) {
            return NONE;
        }
        int[] rank = new int[p.houses.size()];
        Arrays.fill(rank, 1000);
        for (int h : p.offices) {
            rank[h] = 0;
        }
        for (int i = 0; i < 20; i++) {
            for (int[] rule : p.rules) {
                int worst = 0;
                for (int k = 1; k < rule.length; k++) {
                    worst = Math.max(worst, rank[rule[k]]);
                }
                rank[rule[0]] = Math.min(rank[rule[0]], worst + 1);
            }
        }
        return rank[house];
    }

    int harm(int parish, int from, int to) {
        Parish p = get(parish);
        if (lacks(p, from) || lacks(p, to) || from == to) {
            return -999;
        }
        int before = p.tax()[to];
        p.offices.add(from);
        return p.tax()[to] - before;
    }

    int foe(int parish, int house, int what) {
        Parish p = get(parish);
        if (lacks(p, house) || what < 0 || what > 3) {
            return -2;
        }
        int foe = NONE;
        int friend = NONE;
        int most = 0;
        int least = 0;
        for (int h = 0; h < p.houses.size(); h++) {
            int harm = h == house ? 0 : harm(parish, h, house);
            if (harm > most) {
                most = harm;
                foe = h;
            }
            if (harm < least) {
                least = harm;
                friend = h;
            }
        }
        return new int[] {foe, most, friend, -least}[what];
    }

    int top(int parish, int n) {
        if (get(parish) == null || n < 1 || n > 50) {
            return NONE;
        }
        int top = NONE;
        for (int q = 0; q <= 99; q++) {
            Parish p = get(parish);
            p.quota = q;
            boolean ruin = false;
            for (int i = 0; i < n; i++) {
                p.oneYear();
                ruin |= p.ruined != NONE;
            }
            top = ruin ? top : q;
        }
        return top;
    }

    int behind(int parish, int n, int what) {
        Parish p = get(parish);
        if (p == null || n < 0 || n > 50) {
            return -2;
        }
        for (int i = 0; i < n; i++) {
            p.oneYear();
        }
        switch (what) {
            case 0: return p.houses.stream().mapToInt(h -> h[0]).sum();
            case 1: return p.extreme(true);
            case 2: return p.extreme(false);
            case 3: return p.lost;
            default: return what >= 10 && !lacks(p, what - 10) ? p.houses.get(what - 10)[0] : -2;
        }
    }

    int passed(int parish, int what) {
        Parish p = get(parish);
        if (p == null || what < 0 || what > 3) {
            return -2;
        }
        if (what == 0) {
            for (int year = 1; year <= 50; year++) {
                if (behind(parish, year, 1) != behind(parish, 0, 1)) {
                    return year;
                }
            }
            return NONE;
        }
        if (what == 1) {
            for (int year = 0; year <= 50; year++) {
                p.oneYear();
                if (!p.changed) {
                    return year;
                }
            }
            return NONE;
        }
        int[] tax = p.tax();
        boolean[] exempt = p.exempt();
        int most = 0;
        int least = 1000;
        int uneven = 0;
        for (int g = 0; g < tax.length; g++) {
            most = Math.max(most, tax[g]);
            least = exempt[g] ? least : Math.min(least, tax[g]);
            for (int h = g + 1; h < tax.length; h++) {
                if (!exempt[g] && !exempt[h] && p.houses.get(g)[0] == p.houses.get(h)[0] && tax[g] != tax[h]) {
                    uneven++;
                }
            }
        }
        return what == 3 ? uneven : least == 1000 ? 0 : most - least;
    }

    // ---- promises 21, 33, 34 ----

    private int[] taxBy(int parish, int set) {
        Parish p = get(parish);
        p.offices = set(set);
        return p.tax();
    }

    private List<Integer> fitting(int parish, int log) {
        List<Integer> fitting = new ArrayList<>();
        for (int set = 0; set < 1 << get(parish).houses.size(); set++) {
            int[] tax = taxBy(parish, set);
            boolean fits = true;
            for (int[] fact : getLog(log)) {
                fits &= fact[0] < tax.length && tax[fact[0]] == fact[1];
            }
            if (fits) {
                fitting.add(set);
            }
        }
        return fitting;
    }

    int fits(int parish, int log, int what) {
        Parish p = get(parish);
        if (p == null || getLog(log) == null || what < 0 || what == 9) {
            return -2;
        }
        List<Integer> fitting = fitting(parish, log);
        int size = fitting.size();
        if (what == 0) {
            return size;
        }
        if (what >= 10) {
            return what - 10 < size ? fitting.get(what - 10) : -2;
        }
        if (size == 0) {
            return NONE;
        }
        if (what >= 2) {
            if (lacks(p, what - 2)) {
                return NONE;
            }
            long in = fitting.stream().filter(s -> (s >> (what - 2) & 1) == 1).count();
            return in == size ? 1 : in == 0 ? 0 : NONE;
        }
        int ask = NONE;
        int least = 1000;
        for (int h = 0; h < p.houses.size(); h++) {
            Map<Integer, Integer> by = new HashMap<>();
            for (int set : fitting) {
                by.merge(taxBy(parish, set)[h], 1, Integer::sum);
            }
            int most = by.values().stream().mapToInt(v -> v).max().getAsInt();
            if (most < least) {
                least = most;
                ask = h;
            }
        }
        return ask;
    }

    int odds(int parish, int log, int house, boolean under) {
        if (lacks(get(parish), house) || getLog(log) == null) {
            return NONE;
        }
        List<Integer> fitting = fitting(parish, log);
        int in = (int) fitting.stream().filter(s -> (s >> house & 1) == 1).count();
        return fitting.isEmpty() ? NONE : part(in, fitting.size(), under);
    }

    int fewest(int parish, int log, int what) {
        if (get(parish) == null || getLog(log) == null || what < 0 || what > 2) {
            return -2;
        }
        List<Integer> fitting = fitting(parish, log);
        if (what < 2) {
            int[] sizes = fitting.stream().mapToInt(Integer::bitCount).sorted().toArray();
            return sizes.length == 0 ? NONE : what == 0 ? sizes[0] : sizes[sizes.length - 1];
        }
        int alike = 0;
        List<int[]> taxes = new ArrayList<>();
        for (int set : fitting) {
            taxes.add(taxBy(parish, set));
            for (int[] earlier : taxes.subList(0, taxes.size() - 1)) {
                alike += Arrays.equals(earlier, taxes.get(taxes.size() - 1)) ? 1 : 0;
            }
        }
        return alike;
    }
}
