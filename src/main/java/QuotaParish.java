/**
 * The quota shifts: parishes, years and logs told as texts, and what follows from them.
 * The numbered promises of the document say what each public method answers.
 */
public final class QuotaParish {
    public static final int NONE = -1;

    private static final int NO_SUCH = -2;
    private static final int NOT_TWO = -999;

    private static final int MAX_HOUSES = 7;
    private static final int MAX_SETS = 128;
    private static final int MAX_RULES = 10;
    private static final int MAX_DEEDS = 40;
    private static final int MAX_FACTS = 8;
    private static final int MAX_PAIRS = 40;
    private static final int MAX_BYTES = 600;
    private static final int FEED_BYTES = 20;
    private static final int MAX_TEXTS = 2;
    private static final int MAX_IMAGES = 3;
    private static final int MAX_SUM = 99;
    private static final int MAX_YEARS = 50;
    private static final int MAX_TURNS = 6;
    private static final int MAX_DRAWS = 60;
    private static final int MAX_FACTOR = 9;
    private static final int SUM_AT_FIRST = 10;

    private static final int PARISHES = 0;
    private static final int YEARS = 1;
    private static final int LOGS = 2;
    private static final int SORTS = 3;

    private static final int YEAR = 0;
    private static final int BUY = 1;
    private static final int LOSE = 2;
    private static final int QUOTA = 3;
    private static final int PRICE = 4;
    private static final int CUT = 5;

    private final Told told;
    private final Told[] images;
    private final boolean[] kept;
    private final Reader reader;
    private final Course course;
    private final Buying buying;
    private final Outlook outlook;
    private final Annals annals;
    private final Fitting fitting;

    public QuotaParish() {
        told = new Told();
        images = new Told[MAX_IMAGES];
        for (int k = 0; k < MAX_IMAGES; k++) {
            images[k] = new Told();
        }
        kept = new boolean[MAX_IMAGES];
        reader = new Reader(told);
        course = new Course();
        buying = new Buying(course);
        outlook = new Outlook(course);
        annals = new Annals(course);
        fitting = new Fitting();
    }

    // ---- the tape and the texts ----

    public int feed(int a, int b, int c, int d, int e) {
        if (told.length + FEED_BYTES > MAX_BYTES) {
            return NONE;
        }
        told.append(a);
        told.append(b);
        told.append(c);
        told.append(d);
        told.append(e);
        return told.length;
    }

    public int end(int n) {
        if (n < 0 || n > told.length) {
            return NONE;
        }
        told.length = n;
        return n;
    }

    public int text(int sort, int at) {
        told.fault = 0;
        told.place = NONE;
        int slot = told.slotFor(sort, at);
        if (slot == NO_SUCH) {
            // The tape is taken all the same, though no text is read.
            told.length = 0;
            return NO_SUCH;
        }
        reader.read(sort);
        told.length = 0;
        told.fault = reader.fault;
        told.place = reader.place;
        if (reader.fault != 0) {
            return NONE;
        }
        keepText(sort, slot);
        return slot;
    }

    private void keepText(int sort, int slot) {
        if (slot < 0 || slot >= MAX_TEXTS) {
            return;
        }
        if (sort == PARISHES) {
            told.parishes[slot].copyFrom(reader.parish);
        } else if (sort == YEARS) {
            told.years[slot].copyFrom(reader.years);
        } else {
            told.logs[slot].copyFrom(reader.log);
        }
        told.growTo(sort, slot + 1);
    }

    public int fault(int what) {
        if (what == 0) {
            return told.fault;
        }
        return what == 1 ? told.place : NONE;
    }

    public int count(int sort) {
        return sort >= 0 && sort < SORTS ? told.counts[sort] : NO_SUCH;
    }

    public boolean image(int k) {
        if (k < 0 || k >= MAX_IMAGES) {
            return false;
        }
        images[k].copyFrom(told);
        kept[k] = true;
        return true;
    }

    public boolean again(int k) {
        if (k < 0 || k >= MAX_IMAGES || !kept[k]) {
            return false;
        }
        told.copyFrom(images[k]);
        return true;
    }

    // ---- what the texts tell ----

    public int parish(int parish, int what) {
        if (!told.has(PARISHES, parish)) {
            return NONE;
        }
        Parish it = told.parishes[parish];
        if (what >= 40) {
            return it.ruleDetail(what);
        }
        course.begin(it);
        if (what >= 10) {
            return houseDetail(it, what);
        }
        switch (what) {
            case 0: return it.quota;
            case 1: return it.price;
            case 2: return it.houses;
            case 3: return it.rules;
            case 4: return it.offices;
            case 5: return course.exempt;
            case 6: return course.levy.lost;
            default: return NONE;
        }
    }

    private int houseDetail(Parish it, int what) {
        int house = what % 10;
        if (!it.hasHouse(house)) {
            return NONE;
        }
        switch (what / 10) {
            case 1: return it.goods[house];
            case 2: return it.yields[house];
            case 3: return course.levy.taxOf(house);
            default: return NONE;
        }
    }

    public int deed(int years, int k, int what) {
        return told.has(YEARS, years) ? told.years[years].detail(k, what) : NO_SUCH;
    }

    public int fact(int log, int k, int what) {
        return told.has(LOGS, log) ? told.logs[log].detail(k, what) : NO_SUCH;
    }

    // ---- years in a parish ----

    public int stop(int parish, int years) {
        if (!told.has(PARISHES, parish) || !told.has(YEARS, years)) {
            return NONE;
        }
        Pairs it = told.years[years];
        return annals.run(told.parishes[parish], it, it.size);
    }

    public int state(int parish, int years, int n, int what) {
        if (!told.has(PARISHES, parish) || !told.has(YEARS, years)) {
            return NO_SUCH;
        }
        Pairs it = told.years[years];
        if (n < 0 || n > it.size || annals.run(told.parishes[parish], it, n) < n) {
            return NO_SUCH;
        }
        return course.detail(what);
    }

    public int after(int parish, int years, int what) {
        if (!told.has(PARISHES, parish) || !told.has(YEARS, years)) {
            return NO_SUCH;
        }
        Pairs it = told.years[years];
        annals.run(told.parishes[parish], it, it.size);
        switch (what) {
            case 0: return annals.sold;
            case 1: return annals.shortDeed;
            case 2: return annals.peak;
            case 3: return annals.leanYear;
            case 4: return annals.mostFrequentBuyer();
            default: return NO_SUCH;
        }
    }

    public int drawn(int parish, int seed, int n, int what) {
        if (!told.has(PARISHES, parish) || n < 0 || n > MAX_DRAWS) {
            return NO_SUCH;
        }
        outlook.beginDrawing(told.parishes[parish], seed);
        for (int i = 0; i < n; i++) {
            outlook.drawDeed();
        }
        return course.detail(what);
    }

    // ---- who buys ----

    public int rush(int parish, int n, int what) {
        if (!told.has(PARISHES, parish) || n < 1 || n > MAX_FACTOR) {
            return NONE;
        }
        Parish it = told.parishes[parish];
        buying.rushOf(it, it.price, n);
        switch (what) {
            case 0: return course.now.offices;
            case 1: return buying.bought;
            case 2: return buying.rounds;
            default: break;
        }
        if (what >= 20) {
            return it.hasHouse(what - 20) ? course.levy.taxOf(what - 20) : NONE;
        }
        return what >= 10 ? buying.buyer(what - 10) : NONE;
    }

    public int sale(int parish, int n, int what) {
        if (!told.has(PARISHES, parish) || n < 1 || n > MAX_FACTOR || what < 0 || what > 2) {
            return NONE;
        }
        buying.findSale(told.parishes[parish], n);
        if (what == 0) {
            return buying.salePrice;
        }
        return what == 1 ? buying.saleSum : buying.saleBuyers;
    }

    public int strife(int parish, int a, int b, int n, boolean first) {
        if (!told.has(PARISHES, parish) || n < 0 || n > MAX_TURNS || a == b) {
            return NOT_TWO;
        }
        Parish it = told.parishes[parish];
        if (!it.hasHouse(a) || !it.hasHouse(b)) {
            return NOT_TWO;
        }
        if (!first) {
            return buying.margin(it, a, b, n);
        }
        return n == 0 ? NONE : buying.opening(it, a, b, n);
    }

    // ---- who is exempt ----

    public int seeds(int parish, boolean which) {
        if (!told.has(PARISHES, parish)) {
            return NONE;
        }
        int set = Bonds.fewestSeeds(told.parishes[parish]);
        return which ? set : Integer.bitCount(set);
    }

    public int cuts(int parish, int house, boolean which) {
        if (!told.hasHouse(parish, house)) {
            return NONE;
        }
        Parish it = told.parishes[parish];
        int bit = 1 << house;
        if ((it.offices & bit) != 0 || (it.exemptBy(it.offices, 0) & bit) == 0) {
            return NONE;
        }
        int set = Bonds.fewestCuts(it, bit);
        return which ? set : Integer.bitCount(set);
    }

    public int lot(int parish, int k, int house, boolean under) {
        if (!told.hasHouse(parish, house)) {
            return NONE;
        }
        Parish it = told.parishes[parish];
        if (k < 0 || k > it.houses) {
            return NONE;
        }
        return leastTerm(Bonds.exemptCases(it, k, 1 << house), Bonds.setsOf(it, k), under);
    }

    public int spared(int parish, int k, boolean under) {
        if (!told.has(PARISHES, parish)) {
            return NONE;
        }
        Parish it = told.parishes[parish];
        if (k < 0 || k > it.houses) {
            return NONE;
        }
        return leastTerm(Bonds.exemptCases(it, k, it.everyHouse()), Bonds.setsOf(it, k), under);
    }

    public int retinue(int parish, int house) {
        if (!told.hasHouse(parish, house)) {
            return NONE;
        }
        return told.parishes[parish].exemptBy(1 << house, 0);
    }

    public int chief(int parish, int what) {
        if (!told.has(PARISHES, parish)) {
            return NO_SUCH;
        }
        Parish it = told.parishes[parish];
        switch (what) {
            case 0: return Bonds.chiefOf(it);
            case 1: return Bonds.retinueSize(it, Bonds.chiefOf(it));
            case 2: return Bonds.keysOf(it);
            case 3: return Bonds.idleOf(it);
            case 4: return Bonds.ringedOf(it);
            case 5: return Bonds.loneOf(it);
            case 6: return Bonds.deepestOf(it);
            default: return NO_SUCH;
        }
    }

    public int rank(int parish, int house) {
        if (!told.hasHouse(parish, house)) {
            return NONE;
        }
        return Bonds.rankOf(told.parishes[parish], 1 << house);
    }

    // ---- who bears the quota ----

    public int burden(int parish, int what) {
        if (!told.has(PARISHES, parish)) {
            return NONE;
        }
        Parish it = told.parishes[parish];
        int house = outlook.mostBurdened(it);
        if (!it.hasHouse(house) || what < 0 || what > 2) {
            return NONE;
        }
        if (what == 0) {
            return house;
        }
        return leastTerm(course.levy.taxOf(house), it.goods[house], what == 2);
    }

    public int falls(int parish, int house, int k) {
        if (!told.hasHouse(parish, house)) {
            return NONE;
        }
        return outlook.fallOf(told.parishes[parish], house, k);
    }

    public int harm(int parish, int from, int to) {
        if (from == to || !told.hasHouse(parish, from) || !told.hasHouse(parish, to)) {
            return NOT_TWO;
        }
        return outlook.harmOf(told.parishes[parish], from, to);
    }

    public int foe(int parish, int house, int what) {
        if (!told.hasHouse(parish, house) || what < 0 || what > 3) {
            return NO_SUCH;
        }
        Parish it = told.parishes[parish];
        boolean kind = what >= 2;
        int other = outlook.strongest(it, house, kind);
        if (what == 0 || what == 2) {
            return other;
        }
        return it.hasHouse(other) ? Math.abs(outlook.harmOf(it, other, house)) : 0;
    }

    // ---- nothing but years ----

    public int ruin(int parish, boolean who) {
        if (!told.has(PARISHES, parish)) {
            return NONE;
        }
        Parish it = told.parishes[parish];
        int year = outlook.ruinYear(it, it.quota, MAX_YEARS);
        return who ? course.ruined : year;
    }

    public int bid(int parish, int n) {
        if (!told.has(PARISHES, parish) || n < 0 || n > MAX_YEARS) {
            return NONE;
        }
        outlook.goYears(told.parishes[parish], n);
        return course.paid;
    }

    public int top(int parish, int n) {
        if (!told.has(PARISHES, parish) || n < 1 || n > MAX_YEARS) {
            return NONE;
        }
        return outlook.topQuota(told.parishes[parish], n);
    }

    public int behind(int parish, int n, int what) {
        if (!told.has(PARISHES, parish) || n < 0 || n > MAX_YEARS) {
            return NO_SUCH;
        }
        outlook.goYears(told.parishes[parish], n);
        switch (what) {
            case 0: return course.now.goodsTogether();
            case 1: return course.now.richest();
            case 2: return course.now.poorest();
            case 3: return course.lost;
            default: break;
        }
        int house = what - 10;
        return what >= 10 && course.now.hasHouse(house) ? course.now.goods[house] : NO_SUCH;
    }

    public int passed(int parish, int what) {
        if (!told.has(PARISHES, parish)) {
            return NO_SUCH;
        }
        Parish it = told.parishes[parish];
        switch (what) {
            case 0: return outlook.passedYear(it);
            case 1: return outlook.levelYear(it);
            case 2: return outlook.spreadOf(it);
            case 3: return outlook.unevenOf(it);
            default: return NO_SUCH;
        }
    }

    // ---- what a log tells ----

    public int fits(int parish, int log, int what) {
        if (!told.has(PARISHES, parish) || !told.has(LOGS, log) || what < 0) {
            return NO_SUCH;
        }
        fitting.find(told.parishes[parish], told.logs[log]);
        if (what == 0) {
            return fitting.size;
        }
        if (what == 1) {
            return fitting.bestQuestion();
        }
        if (what >= 10) {
            return fitting.fittingSet(what - 10);
        }
        int house = what - 2;
        return house < MAX_HOUSES ? fitting.sureOf(house) : NO_SUCH;
    }

    public int odds(int parish, int log, int house, boolean under) {
        if (!told.hasHouse(parish, house) || !told.has(LOGS, log)) {
            return NONE;
        }
        fitting.find(told.parishes[parish], told.logs[log]);
        return leastTerm(fitting.holding(house), fitting.size, under);
    }

    public int fewest(int parish, int log, int what) {
        if (!told.has(PARISHES, parish) || !told.has(LOGS, log)) {
            return NO_SUCH;
        }
        fitting.find(told.parishes[parish], told.logs[log]);
        switch (what) {
            case 0: return fitting.fewestHouses();
            case 1: return fitting.mostHouses();
            case 2: return fitting.alikeCouples();
            default: return NO_SUCH;
        }
    }

    /** A fraction's upper or lower number in least terms; NONE where nothing stands below. */
    private static int leastTerm(int over, int under, boolean lower) {
        int common = greatestCommon(over, under);
        if (under <= 0 || common <= 0) {
            return NONE;
        }
        return lower ? under / common : over / common;
    }

    private static int greatestCommon(int a, int b) {
        int x = a;
        int y = b;
        for (int i = 0; i < 64 && y != 0; i++) {
            int rest = x % y;
            x = y;
            y = rest;
        }
        return x;
    }

    /** A PARISH as it is told, or, in a course of years, as it is then. */
    private static final class Parish {
        int quota = SUM_AT_FIRST;
        int price = SUM_AT_FIRST;
        int houses;
        int offices;
        int rules;
        final int[] goods = new int[MAX_HOUSES];
        final int[] yields = new int[MAX_HOUSES];
        final int[] ruleHouse = new int[MAX_RULES];
        final int[] rulePatron = new int[MAX_RULES];
        final int[] ruleSecond = new int[MAX_RULES];
        /** Patrons as bits: a rule holds where all of them are EXEMPT, so closures need no cases. */
        final int[] ruleNeeds = new int[MAX_RULES];

        void clear() {
            quota = SUM_AT_FIRST;
            price = SUM_AT_FIRST;
            houses = 0;
            offices = 0;
            rules = 0;
        }

        void copyFrom(Parish other) {
            quota = other.quota;
            price = other.price;
            houses = other.houses;
            offices = other.offices;
            rules = other.rules;
            System.arraycopy(other.goods, 0, goods, 0, houses);
            System.arraycopy(other.yields, 0, yields, 0, houses);
            System.arraycopy(other.ruleHouse, 0, ruleHouse, 0, rules);
            System.arraycopy(other.rulePatron, 0, rulePatron, 0, rules);
            System.arraycopy(other.ruleSecond, 0, ruleSecond, 0, rules);
            System.arraycopy(other.ruleNeeds, 0, ruleNeeds, 0, rules);
        }

        void addHouse(int itsGoods, int itsYield) {
            if (houses >= 0 && houses < MAX_HOUSES) {
                goods[houses] = itsGoods;
                yields[houses] = itsYield;
                houses++;
            }
        }

        void addRule(int house, int patron, int second) {
            if (rules >= 0 && rules < MAX_RULES) {
                ruleHouse[rules] = house;
                rulePatron[rules] = patron;
                ruleSecond[rules] = second;
                ruleNeeds[rules] = (1 << patron) | (second == NONE ? 0 : 1 << second);
                rules++;
            }
        }

        boolean hasHouse(int house) {
            return house >= 0 && house < houses && house < MAX_HOUSES;
        }

        boolean hasRule(int rule) {
            return rule >= 0 && rule < rules && rule < MAX_RULES;
        }

        int everyHouse() {
            return (1 << houses) - 1;
        }

        int ruleDetail(int what) {
            int rule = what % 10;
            if (!hasRule(rule)) {
                return NONE;
            }
            switch (what / 10) {
                case 4: return ruleHouse[rule];
                case 5: return rulePatron[rule];
                case 6: return ruleSecond[rule];
                default: return NONE;
            }
        }

        /** Those that are EXEMPT (bits), if these hold OFFICES and these RULES are cut. */
        int exemptBy(int holders, int cut) {
            int exempt = holders;
            boolean grown = true;
            for (int round = 0; round <= MAX_HOUSES && grown; round++) {
                int before = exempt;
                for (int r = 0; r < rules && r < MAX_RULES; r++) {
                    if ((cut >> r & 1) == 0 && (exempt & ruleNeeds[r]) == ruleNeeds[r]) {
                        exempt |= 1 << ruleHouse[r];
                    }
                }
                grown = exempt != before;
            }
            return exempt;
        }

        /** Those of the set and whom one RULE makes EXEMPT by the set itself, no further. */
        int oneStepFrom(int set) {
            int next = set;
            for (int r = 0; r < rules && r < MAX_RULES; r++) {
                if ((set & ruleNeeds[r]) == ruleNeeds[r]) {
                    next |= 1 << ruleHouse[r];
                }
            }
            return next;
        }

        int goodsTogether() {
            int sum = 0;
            for (int h = 0; h < houses && h < MAX_HOUSES; h++) {
                sum += goods[h];
            }
            return sum;
        }

        int richest() {
            int best = NONE;
            for (int h = 0; h < houses && h < MAX_HOUSES; h++) {
                if (best == NONE || goods[h] > goods[best]) {
                    best = h;
                }
            }
            return best;
        }

        int poorest() {
            int best = NONE;
            for (int h = 0; h < houses && h < MAX_HOUSES; h++) {
                if (best == NONE || goods[h] < goods[best]) {
                    best = h;
                }
            }
            return best;
        }
    }

    /** DEEDS, each with what it is and its number, or FACTS, each with its HOUSE and TAX. */
    private static final class Pairs {
        int size;
        final int[] firsts = new int[MAX_PAIRS];
        final int[] seconds = new int[MAX_PAIRS];

        boolean has(int k) {
            return k >= 0 && k < size && k < MAX_PAIRS;
        }

        void add(int first, int second) {
            if (size >= 0 && size < MAX_PAIRS) {
                firsts[size] = first;
                seconds[size] = second;
                size++;
            }
        }

        /** How many there are (k NONE, what 0), or the first or second number of one. */
        int detail(int k, int what) {
            if (k == NONE && what == 0) {
                return size;
            }
            if (!has(k)) {
                return NO_SUCH;
            }
            if (what == 0) {
                return firsts[k];
            }
            return what == 1 ? seconds[k] : NO_SUCH;
        }

        void copyFrom(Pairs other) {
            size = other.size;
            System.arraycopy(other.firsts, 0, firsts, 0, size);
            System.arraycopy(other.seconds, 0, seconds, 0, size);
        }
    }

    /** All that is told, the tape with it: what an image keeps. */
    private static final class Told {
        final int[] tape = new int[MAX_BYTES];
        int length;
        final Parish[] parishes = new Parish[MAX_TEXTS];
        final Pairs[] years = new Pairs[MAX_TEXTS];
        final Pairs[] logs = new Pairs[MAX_TEXTS];
        final int[] counts = new int[SORTS];
        int fault;
        int place = NONE;

        Told() {
            for (int k = 0; k < MAX_TEXTS; k++) {
                parishes[k] = new Parish();
                years[k] = new Pairs();
                logs[k] = new Pairs();
            }
        }

        void append(int word) {
            for (int shift = 24; shift >= 0; shift -= 8) {
                if (length >= 0 && length < MAX_BYTES) {
                    tape[length] = (word >>> shift) & 255;
                    length++;
                }
            }
        }

        /** A byte of the tape; NONE behind its end. */
        int byteAt(int at) {
            return at >= 0 && at < length && at < MAX_BYTES ? tape[at] : NONE;
        }

        boolean has(int sort, int k) {
            return sort >= 0 && sort < SORTS && k >= 0 && k < counts[sort] && k < MAX_TEXTS;
        }

        boolean hasHouse(int parish, int house) {
            return has(PARISHES, parish) && parishes[parish].hasHouse(house);
        }

        /** Where a text of a sort goes: NO_SUCH where it can go nowhere. */
        int slotFor(int sort, int at) {
            if (sort < 0 || sort >= SORTS) {
                return NO_SUCH;
            }
            if (at == NONE) {
                return counts[sort] < MAX_TEXTS ? counts[sort] : NO_SUCH;
            }
            return has(sort, at) ? at : NO_SUCH;
        }

        void growTo(int sort, int size) {
            if (sort >= 0 && sort < SORTS && counts[sort] < size) {
                counts[sort] = size;
            }
        }

        void copyFrom(Told other) {
            length = other.length;
            System.arraycopy(other.tape, 0, tape, 0, length);
            for (int k = 0; k < MAX_TEXTS; k++) {
                parishes[k].copyFrom(other.parishes[k]);
                years[k].copyFrom(other.years[k]);
                logs[k].copyFrom(other.logs[k]);
            }
            for (int sort = 0; sort < SORTS; sort++) {
                counts[sort] = other.counts[sort];
            }
            fault = other.fault;
            place = other.place;
        }
    }

    /** Takes the tape as a text: tokens, lines, FAULTS. */
    private static final class Reader {
        private static final int END = 0;
        private static final int WORD = 1;
        private static final int NUMBER = 2;
        private static final int SEMICOLON = 3;
        private static final int UNKNOWN = 4;

        private static final int QUOTA_LINE = 0;
        private static final int PRICE_LINE = 1;
        private static final int OFFICE_LINE = 2;
        private static final int HOUSE_LINE = 3;
        private static final int TIE_LINE = 4;
        private static final int PACT_LINE = 5;
        private static final int PAID_LINE = 0;

        /** The greatest numbers of each line, three to a line; NONE: no such number. */
        private static final int LINE_WIDTH = 3;
        private static final int[] PARISH_LIMITS = {
            99, -1, -1,  99, -1, -1,  6, -1, -1,  99, 9, -1,  6, 6, -1,  6, 6, 6
        };
        private static final int[] YEARS_LIMITS = {
            -1, -1, -1,  6, -1, -1,  6, -1, -1,  99, -1, -1,  99, -1, -1,  9, -1, -1
        };
        private static final int[] LOG_LIMITS = {6, 99, -1};

        private static final int CANNOT_GO_ON = 1;
        private static final int BAD_NUMBER = 2;
        private static final int TOO_MANY = 3;
        private static final int ABSENT_HOUSE = 4;

        final Parish parish = new Parish();
        final Pairs years = new Pairs();
        final Pairs log = new Pairs();
        int fault;
        int place;

        private final Told told;
        private final int[] numbers = new int[LINE_WIDTH];
        private int token;
        private int tokenStart;
        private int tokenEnd;
        private int value;
        private int housesToldOf;

        Reader(Told told) {
            this.told = told;
        }

        void read(int sort) {
            parish.clear();
            years.size = 0;
            log.size = 0;
            fault = 0;
            place = NONE;
            housesToldOf = 0;
            tokenEnd = 0;
            nextToken();
            for (int line = 0; line <= MAX_BYTES && token != END && fault != CANNOT_GO_ON; line++) {
                readLine(sort);
            }
            if (sort == PARISHES && housesToldOf >> parish.houses != 0) {
                noteFault(ABSENT_HOUSE, told.length);
            }
        }

        private void readLine(int sort) {
            int line = lineOf(sort);
            if (line == NONE) {
                breakOff();
                return;
            }
            if (isFull(sort, line)) {
                noteFault(TOO_MANY, tokenStart);
            }
            for (int i = 0; i < LINE_WIDTH && limitOf(sort, line, i) != NONE; i++) {
                nextToken();
                if (token != NUMBER) {
                    breakOff();
                    return;
                }
                numbers[i] = value;
                if (value > limitOf(sort, line, i) || isRule(sort, line) && isRepeated(i)) {
                    noteFault(BAD_NUMBER, tokenStart);
                }
            }
            nextToken();
            if (token != SEMICOLON) {
                breakOff();
                return;
            }
            // A faulty text is dropped whole, so its further lines need only be looked at.
            if (fault == 0) {
                keepLine(sort, line);
            }
            nextToken();
        }

        private void keepLine(int sort, int line) {
            if (sort == YEARS) {
                years.add(line, line == YEAR ? NONE : numbers[0]);
            } else if (sort == LOGS) {
                log.add(numbers[0], numbers[1]);
            } else {
                keepParishLine(line);
            }
        }

        private void keepParishLine(int line) {
            switch (line) {
                case QUOTA_LINE:
                    parish.quota = numbers[0];
                    break;
                case PRICE_LINE:
                    parish.price = numbers[0];
                    break;
                case OFFICE_LINE:
                    parish.offices |= 1 << numbers[0];
                    housesToldOf |= 1 << numbers[0];
                    break;
                case HOUSE_LINE:
                    parish.addHouse(numbers[0], numbers[1]);
                    break;
                case TIE_LINE:
                    parish.addRule(numbers[0], numbers[1], NONE);
                    housesToldOf |= 1 << numbers[0] | 1 << numbers[1];
                    break;
                default:
                    parish.addRule(numbers[0], numbers[1], numbers[2]);
                    housesToldOf |= 1 << numbers[0] | 1 << numbers[1] | 1 << numbers[2];
                    break;
            }
        }

        private boolean isFull(int sort, int line) {
            if (sort == YEARS) {
                return years.size >= MAX_DEEDS;
            }
            if (sort == LOGS) {
                return log.size >= MAX_FACTS;
            }
            return line == HOUSE_LINE && parish.houses >= MAX_HOUSES
                || isRule(sort, line) && parish.rules >= MAX_RULES;
        }

        private boolean isRule(int sort, int line) {
            return sort == PARISHES && (line == TIE_LINE || line == PACT_LINE);
        }

        private boolean isRepeated(int i) {
            for (int j = 0; j < i && j < LINE_WIDTH; j++) {
                if (numbers[j] == value) {
                    return true;
                }
            }
            return false;
        }

        private int limitOf(int sort, int line, int i) {
            int at = line * LINE_WIDTH + i;
            int[] limits = sort == PARISHES ? PARISH_LIMITS : sort == YEARS ? YEARS_LIMITS : LOG_LIMITS;
            return at >= 0 && at < limits.length ? limits[at] : NONE;
        }

        private int lineOf(int sort) {
            if (token != WORD) {
                return NONE;
            }
            if (sort == PARISHES) {
                return parishLine();
            }
            if (sort == YEARS) {
                return yearsLine();
            }
            return spells("paid") ? PAID_LINE : NONE;
        }

        private int parishLine() {
            return spells("quota") ? QUOTA_LINE
                : spells("price") ? PRICE_LINE
                : spells("office") ? OFFICE_LINE
                : spells("house") ? HOUSE_LINE
                : spells("tie") ? TIE_LINE
                : spells("pact") ? PACT_LINE : NONE;
        }

        private int yearsLine() {
            return spells("year") ? YEAR
                : spells("buy") ? BUY
                : spells("lose") ? LOSE
                : spells("quota") ? QUOTA
                : spells("price") ? PRICE
                : spells("cut") ? CUT : NONE;
        }

        private boolean spells(String word) {
            if (tokenEnd - tokenStart != word.length()) {
                return false;
            }
            for (int i = 0; i < word.length(); i++) {
                if (told.byteAt(tokenStart + i) != word.charAt(i)) {
                    return false;
                }
            }
            return true;
        }

        /** FAULT 1 goes before all others, wherever these are. */
        private void breakOff() {
            fault = CANNOT_GO_ON;
            place = tokenStart;
        }

        /** Lines are looked at by place, so the first that is noted is the first by place. */
        private void noteFault(int kind, int at) {
            if (fault == 0) {
                fault = kind;
                place = at;
            }
        }

        private void nextToken() {
            int at = tokenEnd;
            while (at < told.length && isBlank(told.byteAt(at))) {
                at++;
            }
            tokenStart = at;
            int first = told.byteAt(at);
            if (isLetter(first)) {
                token = WORD;
                while (at < told.length && isLetter(told.byteAt(at))) {
                    at++;
                }
            } else if (isDigit(first)) {
                at = readDigits(at);
            } else {
                token = first == NONE ? END : first == ';' ? SEMICOLON : UNKNOWN;
                at++;
            }
            tokenEnd = at;
        }

        private int readDigits(int from) {
            int at = from;
            value = 0;
            while (at < told.length && isDigit(told.byteAt(at))) {
                value = value * 10 + told.byteAt(at) - '0';
                at++;
            }
            token = at - from <= 2 ? NUMBER : UNKNOWN;
            return at;
        }

        private static boolean isBlank(int c) {
            return c == 10 || c == 32;
        }

        private static boolean isLetter(int c) {
            return c >= 'a' && c <= 'z';
        }

        private static boolean isDigit(int c) {
            return c >= '0' && c <= '9';
        }
    }

    /** The TAX of each HOUSE. */
    private static final class Levy {
        int lost;
        private final int[] tax = new int[MAX_HOUSES];
        private final int[] cutOff = new int[MAX_HOUSES];

        int taxOf(int house) {
            return house >= 0 && house < MAX_HOUSES ? tax[house] : 0;
        }

        void share(Parish parish, int quota, int exempt) {
            int all = 0;
            for (int h = 0; h < MAX_HOUSES; h++) {
                tax[h] = 0;
                cutOff[h] = 0;
                if (h < parish.houses && (exempt >> h & 1) == 0) {
                    all += parish.goods[h];
                }
            }
            lost = all > 0 ? 0 : quota;
            if (all <= 0) {
                return;
            }
            int left = quota;
            for (int h = 0; h < parish.houses && h < MAX_HOUSES; h++) {
                if ((exempt >> h & 1) == 0) {
                    int part = quota * parish.goods[h];
                    tax[h] = part / all;
                    cutOff[h] = part - tax[h] * all;
                    left -= tax[h];
                }
            }
            for (int i = 0; i < left && i < MAX_HOUSES; i++) {
                giveOneMore();
            }
        }

        /** There are always more with something cut off than are left over, so 0 is never taken. */
        private void giveOneMore() {
            int best = 0;
            for (int h = 1; h < MAX_HOUSES; h++) {
                if (cutOff[h] > cutOff[best]) {
                    best = h;
                }
            }
            tax[best]++;
            cutOff[best] = 0;
        }
    }

    /** A PARISH as it goes on from year 0: its STATE, and what may be done in it. */
    private static final class Course {
        final Parish now = new Parish();
        final Levy levy = new Levy();
        int year;
        int paid;
        int lost;
        int cut;
        int exempt;
        /** What was paid in the latest year, and who could not pay all then (NONE: all could). */
        int paidLately;
        int ruined;
        /** Whether the latest year changed the GOODS of any HOUSE. */
        boolean changed;

        void begin(Parish parish) {
            now.copyFrom(parish);
            year = 0;
            paid = 0;
            lost = 0;
            cut = 0;
            paidLately = 0;
            ruined = NONE;
            changed = false;
            assess();
        }

        /** EXEMPT and TAX anew. */
        void assess() {
            exempt = now.exemptBy(now.offices, cut);
            levy.share(now, now.quota, exempt);
        }

        boolean isExempt(int house) {
            return (exempt >> house & 1) != 0;
        }

        /** Does a DEED, if it can be. */
        boolean act(int kind, int number) {
            switch (kind) {
                case YEAR: return year < MAX_YEARS && collect();
                case BUY: return buyOffice(number);
                case LOSE: return loseOffice(number);
                case QUOTA: return changeQuota(number);
                case PRICE: return changePrice(number);
                case CUT: return cutRule(number);
                default: return false;
            }
        }

        /** One year, whatever year it is: true, since nothing stands against it. */
        boolean collect() {
            changed = false;
            paidLately = 0;
            ruined = NONE;
            lost += levy.lost;
            for (int h = 0; h < now.houses && h < MAX_HOUSES; h++) {
                int due = levy.taxOf(h);
                int had = now.goods[h];
                int pays = Math.min(due, had);
                if (pays < due && ruined == NONE) {
                    ruined = h;
                }
                paidLately += pays;
                lost += due - pays;
                now.goods[h] = Math.min(MAX_SUM, had - pays + now.yields[h]);
                changed |= now.goods[h] != had;
            }
            paid += paidLately;
            year++;
            // GOODS do not tell who is EXEMPT, so TAX alone is anew.
            levy.share(now, now.quota, exempt);
            return true;
        }

        boolean canBuy(int house) {
            return now.hasHouse(house) && (now.offices >> house & 1) == 0 && now.goods[house] >= now.price;
        }

        boolean buyOffice(int house) {
            if (!canBuy(house)) {
                return false;
            }
            now.goods[house] -= now.price;
            now.offices |= 1 << house;
            assess();
            return true;
        }

        private boolean loseOffice(int house) {
            if (!now.hasHouse(house) || (now.offices >> house & 1) == 0) {
                return false;
            }
            now.offices &= ~(1 << house);
            assess();
            return true;
        }

        /** By the document's words it is another than it was: the same one can't be. */
        private boolean changeQuota(int quota) {
            if (quota == now.quota) {
                return false;
            }
            now.quota = quota;
            assess();
            return true;
        }

        private boolean changePrice(int price) {
            if (price == now.price) {
                return false;
            }
            now.price = price;
            return true;
        }

        private boolean cutRule(int rule) {
            if (!now.hasRule(rule) || (cut >> rule & 1) != 0) {
                return false;
            }
            cut |= 1 << rule;
            assess();
            return true;
        }

        int detail(int what) {
            switch (what) {
                case 0: return year;
                case 1: return paid;
                case 2: return lost;
                case 3: return now.offices;
                case 4: return exempt;
                case 5: return now.quota;
                case 6: return now.price;
                case 7: return cut;
                default: break;
            }
            if (what >= 20) {
                return now.hasHouse(what - 20) ? levy.taxOf(what - 20) : NO_SUCH;
            }
            return what >= 10 && now.hasHouse(what - 10) ? now.goods[what - 10] : NO_SUCH;
        }
    }

    /** YEARS in a PARISH, and what is noted on the way. */
    private static final class Annals {
        private final Course course;
        private final int[] purchases = new int[MAX_HOUSES];
        int sold;
        int shortDeed;
        int peak;
        int leanYear;
        private int leastPaid;

        Annals(Course course) {
            this.course = course;
        }

        /** Does the first n DEEDS, up to the first that can't be: how many were done. */
        int run(Parish parish, Pairs years, int n) {
            course.begin(parish);
            sold = 0;
            shortDeed = NONE;
            peak = Integer.bitCount(course.exempt);
            leanYear = NONE;
            leastPaid = 0;
            for (int h = 0; h < MAX_HOUSES; h++) {
                purchases[h] = 0;
            }
            int all = Math.min(n, Math.min(years.size, MAX_DEEDS));
            for (int k = 0; k < all; k++) {
                if (!course.act(years.firsts[k], years.seconds[k])) {
                    return k;
                }
                note(k, years.firsts[k], years.seconds[k]);
            }
            return all;
        }

        private void note(int k, int kind, int number) {
            if (kind == BUY && number >= 0 && number < MAX_HOUSES) {
                sold += course.now.price;
                purchases[number]++;
            }
            if (kind == YEAR && (leanYear == NONE || course.paidLately < leastPaid)) {
                leanYear = course.year;
                leastPaid = course.paidLately;
            }
            if (shortDeed == NONE && course.lost > 0) {
                shortDeed = k;
            }
            peak = Math.max(peak, Integer.bitCount(course.exempt));
        }

        int mostFrequentBuyer() {
            int best = NONE;
            for (int h = 0; h < MAX_HOUSES; h++) {
                if (purchases[h] > (best == NONE ? 0 : purchases[best])) {
                    best = h;
                }
            }
            return best;
        }
    }

    /** RUSH, SALE and STRIFE: who buys, if all follow their gain. */
    private static final class Buying {
        private static final int FIRST = 1;
        private static final int SECOND = 2;

        private final Course course;
        private final int[] buyers = new int[MAX_HOUSES];
        int bought;
        int rounds;
        int salePrice;
        int saleSum;
        int saleBuyers;
        /** By who of the two has bought (FIRST, SECOND): how much more the first has. */
        private final int[] margins = new int[4];

        Buying(Course course) {
            this.course = course;
        }

        void rushOf(Parish parish, int price, int n) {
            course.begin(parish);
            course.now.price = price;
            bought = 0;
            rounds = 0;
            boolean any = true;
            for (int round = 0; round <= MAX_HOUSES && any; round++) {
                any = false;
                for (int h = 0; h < parish.houses && h < MAX_HOUSES; h++) {
                    if (isDriven(h, n) && course.buyOffice(h)) {
                        noteBuyer(h);
                        any = true;
                    }
                }
                if (any) {
                    rounds++;
                }
            }
        }

        private boolean isDriven(int house, int n) {
            return !course.isExempt(house) && n * course.levy.taxOf(house) > course.now.price;
        }

        private void noteBuyer(int house) {
            if (bought >= 0 && bought < MAX_HOUSES) {
                buyers[bought] = house;
                bought++;
            }
        }

        int buyer(int k) {
            return k >= 0 && k < bought && k < MAX_HOUSES ? buyers[k] : NONE;
        }

        void findSale(Parish parish, int n) {
            saleSum = NONE;
            for (int price = 0; price <= MAX_SUM; price++) {
                rushOf(parish, price, n);
                if (price * bought > saleSum) {
                    salePrice = price;
                    saleSum = price * bought;
                    saleBuyers = bought;
                }
            }
        }

        int margin(Parish parish, int a, int b, int turns) {
            fillMargins(parish, a, b);
            for (int turn = turns - 1; turn >= 0; turn--) {
                takeTurn(parish, a, b, turn);
            }
            return margins[0];
        }

        /** 1, if the first gains by buying in its first turn. */
        int opening(Parish parish, int a, int b, int turns) {
            fillMargins(parish, a, b);
            for (int turn = turns - 1; turn >= 1; turn--) {
                takeTurn(parish, a, b, turn);
            }
            course.begin(parish);
            return course.canBuy(a) && margins[FIRST] > margins[0] ? 1 : 0;
        }

        /** When each buys does not matter, only whether: four outcomes tell the year behind all turns. */
        private void fillMargins(Parish parish, int a, int b) {
            for (int done = 0; done < 4; done++) {
                course.begin(parish);
                if ((done & FIRST) != 0) {
                    course.buyOffice(a);
                }
                if ((done & SECOND) != 0) {
                    course.buyOffice(b);
                }
                course.collect();
                margins[done] = goodsOf(a) - goodsOf(b);
            }
        }

        private int goodsOf(int house) {
            return course.now.hasHouse(house) ? course.now.goods[house] : 0;
        }

        /** From the margins behind this turn to those before it. */
        private void takeTurn(Parish parish, int a, int b, int turn) {
            boolean firsts = turn % 2 == 0;
            int mover = firsts ? FIRST : SECOND;
            course.begin(parish);
            if (!course.canBuy(firsts ? a : b)) {
                return;
            }
            for (int done = 0; done < 4; done++) {
                if ((done & mover) == 0) {
                    int byBuying = margins[done | mover];
                    margins[done] = firsts ? Math.max(margins[done], byBuying) : Math.min(margins[done], byBuying);
                }
            }
        }
    }

    /** Who is EXEMPT by whom: questions that the RULES alone answer. */
    private static final class Bonds {
        static int fewestSeeds(Parish parish) {
            int all = parish.everyHouse();
            int best = all;
            for (int set = 0; set < all && set < MAX_SETS; set++) {
                if (Integer.bitCount(set) < Integer.bitCount(best)
                    && parish.exemptBy(parish.offices | set, 0) == all) {
                    best = set;
                }
            }
            return best;
        }

        static int fewestCuts(Parish parish, int bit) {
            int all = (1 << parish.rules) - 1;
            int best = all;
            for (int set = 0; set < all && set < 1 << MAX_RULES; set++) {
                if (Integer.bitCount(set) < Integer.bitCount(best)
                    && (parish.exemptBy(parish.offices, set) & bit) == 0) {
                    best = set;
                }
            }
            return best;
        }

        /** Of all sets of k: how often any HOUSE of the mask is EXEMPT, all these together. */
        static int exemptCases(Parish parish, int k, int mask) {
            int cases = 0;
            for (int set = 0; set <= parish.everyHouse() && set < MAX_SETS; set++) {
                if (Integer.bitCount(set) == k) {
                    cases += Integer.bitCount(parish.exemptBy(parish.offices | set, 0) & mask);
                }
            }
            return cases;
        }

        static int setsOf(Parish parish, int k) {
            int sets = 0;
            for (int set = 0; set <= parish.everyHouse() && set < MAX_SETS; set++) {
                if (Integer.bitCount(set) == k) {
                    sets++;
                }
            }
            return sets;
        }

        static int retinueSize(Parish parish, int house) {
            return parish.hasHouse(house) ? Integer.bitCount(parish.exemptBy(1 << house, 0)) : 0;
        }

        static int chiefOf(Parish parish) {
            int best = NONE;
            int most = 0;
            for (int h = 0; h < parish.houses && h < MAX_HOUSES; h++) {
                int size = retinueSize(parish, h);
                if (size > most) {
                    best = h;
                    most = size;
                }
            }
            return best;
        }

        static int keysOf(Parish parish) {
            int exempt = parish.exemptBy(parish.offices, 0);
            int keys = 0;
            for (int r = 0; r < parish.rules && r < MAX_RULES; r++) {
                if (parish.exemptBy(parish.offices, 1 << r) != exempt) {
                    keys |= 1 << r;
                }
            }
            return keys;
        }

        /**
         * A RULE is missed by nobody just if the others make its HOUSE EXEMPT by its PATRONS alone:
         * then they do whenever it holds, and else the set of its PATRONS shows the change.
         */
        static int idleOf(Parish parish) {
            int idle = 0;
            for (int r = 0; r < parish.rules && r < MAX_RULES; r++) {
                int exempt = parish.exemptBy(parish.ruleNeeds[r], 1 << r);
                if ((exempt >> parish.ruleHouse[r] & 1) != 0) {
                    idle |= 1 << r;
                }
            }
            return idle;
        }

        static int ringedOf(Parish parish) {
            int ringed = 0;
            for (int h = 0; h < parish.houses && h < MAX_HOUSES; h++) {
                ringed |= aboveByTies(parish, h) & 1 << h;
            }
            return ringed;
        }

        /** Whom a HOUSE comes to by ties, from PATRON to PATRON, in one step or more. */
        private static int aboveByTies(Parish parish, int house) {
            int above = 0;
            for (int step = 0; step < MAX_HOUSES; step++) {
                int from = above | 1 << house;
                for (int r = 0; r < parish.rules && r < MAX_RULES; r++) {
                    if (parish.ruleSecond[r] == NONE && (from >> parish.ruleHouse[r] & 1) != 0) {
                        above |= parish.ruleNeeds[r];
                    }
                }
            }
            return above;
        }

        static int loneOf(Parish parish) {
            int lone = parish.everyHouse();
            for (int r = 0; r < parish.rules && r < MAX_RULES; r++) {
                lone &= ~(1 << parish.ruleHouse[r]);
            }
            return lone;
        }

        /** The RANK is the step in which the HOUSE becomes EXEMPT, all going at once. */
        static int rankOf(Parish parish, int bit) {
            int exempt = parish.offices;
            for (int rank = 0; rank <= MAX_HOUSES; rank++) {
                if ((exempt & bit) != 0) {
                    return rank;
                }
                exempt = parish.oneStepFrom(exempt);
            }
            return NONE;
        }

        static int deepestOf(Parish parish) {
            int deepest = NONE;
            for (int h = 0; h < parish.houses && h < MAX_HOUSES; h++) {
                deepest = Math.max(deepest, rankOf(parish, 1 << h));
            }
            return deepest;
        }
    }

    /** TAX and years of a PARISH as told: what comes of it. */
    private static final class Outlook {
        private final Course course;
        private int drawState;

        Outlook(Course course) {
            this.course = course;
        }

        void goYears(Parish parish, int n) {
            course.begin(parish);
            for (int i = 0; i < n && i < MAX_YEARS; i++) {
                course.collect();
            }
        }

        /** The first year of these in which somebody can't pay all; course.ruined tells who. */
        int ruinYear(Parish parish, int quota, int years) {
            course.begin(parish);
            course.now.quota = quota;
            course.assess();
            for (int year = 1; year <= years && year <= MAX_YEARS; year++) {
                course.collect();
                if (course.ruined != NONE) {
                    return year;
                }
            }
            return NONE;
        }

        int topQuota(Parish parish, int years) {
            for (int quota = MAX_SUM; quota > 0; quota--) {
                if (ruinYear(parish, quota, years) == NONE) {
                    return quota;
                }
            }
            return 0;
        }

        int passedYear(Parish parish) {
            course.begin(parish);
            int atFirst = course.now.richest();
            for (int year = 1; year <= MAX_YEARS; year++) {
                course.collect();
                if (course.now.richest() != atFirst) {
                    return year;
                }
            }
            return NONE;
        }

        int levelYear(Parish parish) {
            course.begin(parish);
            for (int year = 0; year <= MAX_YEARS; year++) {
                course.collect();
                if (!course.changed) {
                    return year;
                }
            }
            return NONE;
        }

        int spreadOf(Parish parish) {
            course.begin(parish);
            int most = 0;
            int least = NONE;
            for (int h = 0; h < parish.houses && h < MAX_HOUSES; h++) {
                int tax = course.levy.taxOf(h);
                most = Math.max(most, tax);
                if (!course.isExempt(h)) {
                    least = least == NONE ? tax : Math.min(least, tax);
                }
            }
            return least == NONE ? 0 : most - least;
        }

        int unevenOf(Parish parish) {
            course.begin(parish);
            int couples = 0;
            for (int g = 0; g < parish.houses && g < MAX_HOUSES; g++) {
                for (int h = 0; h < g; h++) {
                    if (!course.isExempt(g) && !course.isExempt(h) && parish.goods[g] == parish.goods[h]
                        && course.levy.taxOf(g) != course.levy.taxOf(h)) {
                        couples++;
                    }
                }
            }
            return couples;
        }

        int mostBurdened(Parish parish) {
            course.begin(parish);
            int best = NONE;
            for (int h = 0; h < parish.houses && h < MAX_HOUSES; h++) {
                int tax = course.levy.taxOf(h);
                if (tax > 0 && (best == NONE
                    || tax * parish.goods[best] > course.levy.taxOf(best) * parish.goods[h])) {
                    best = h;
                }
            }
            return best;
        }

        /** The k-th QUOTA by which the TAX falls, or (k NONE) how many there are. */
        int fallOf(Parish parish, int house, int k) {
            int exempt = parish.exemptBy(parish.offices, 0);
            int falls = 0;
            int before = 0;
            for (int quota = 1; quota <= MAX_SUM; quota++) {
                course.levy.share(parish, quota, exempt);
                int tax = course.levy.taxOf(house);
                if (tax < before) {
                    if (falls == k) {
                        return quota;
                    }
                    falls++;
                }
                before = tax;
            }
            return k == NONE ? falls : NONE;
        }

        int harmOf(Parish parish, int from, int to) {
            course.begin(parish);
            int before = course.levy.taxOf(to);
            course.now.offices |= 1 << from;
            course.assess();
            return course.levy.taxOf(to) - before;
        }

        /** The FOE, or (kind) the FRIEND. */
        int strongest(Parish parish, int house, boolean kind) {
            int best = NONE;
            int most = 0;
            for (int h = 0; h < parish.houses && h < MAX_HOUSES; h++) {
                if (h != house) {
                    int harm = harmOf(parish, h, house);
                    int weight = kind ? -harm : harm;
                    if (weight > most) {
                        best = h;
                        most = weight;
                    }
                }
            }
            return best;
        }

        void beginDrawing(Parish parish, int seed) {
            course.begin(parish);
            drawState = seed;
        }

        void drawDeed() {
            int drawn = draw(10);
            if (drawn <= 3) {
                course.act(YEAR, NONE);
            } else if (drawn <= 6) {
                // Without HOUSES nothing more is drawn.
                if (course.now.houses > 0) {
                    course.act(drawn == 6 ? LOSE : BUY, draw(course.now.houses));
                }
            } else if (drawn == 9) {
                course.act(CUT, draw(MAX_RULES));
            } else {
                course.act(drawn == 7 ? QUOTA : PRICE, draw(MAX_SUM + 1));
            }
        }

        private int draw(int below) {
            drawState = drawState * 1103515245 + 12345;
            return below > 0 ? (drawState >>> 16) % below : 0;
        }
    }

    /** The SETS of HOUSES that FIT a LOG, rising, each with the TAX of all HOUSES by it. */
    private static final class Fitting {
        /** A TAX has 7 bits, so those of all HOUSES stand in one long, and are alike if it is. */
        private static final int TAX_BITS = 7;
        private static final int TAX_MASK = 127;

        int size;
        private int houses;
        private final int[] sets = new int[MAX_SETS];
        private final long[] taxes = new long[MAX_SETS];
        private final int[] tally = new int[TAX_MASK + 1];
        private final Levy levy = new Levy();

        void find(Parish parish, Pairs log) {
            size = 0;
            houses = parish.houses;
            for (int set = 0; set <= parish.everyHouse() && set < MAX_SETS; set++) {
                levy.share(parish, parish.quota, parish.exemptBy(set, 0));
                if (size < MAX_SETS && isAsLogged(parish, log)) {
                    sets[size] = set;
                    taxes[size] = packedTaxes();
                    size++;
                }
            }
        }

        private boolean isAsLogged(Parish parish, Pairs log) {
            for (int k = 0; k < log.size && k < MAX_FACTS; k++) {
                if (!parish.hasHouse(log.firsts[k]) || levy.taxOf(log.firsts[k]) != log.seconds[k]) {
                    return false;
                }
            }
            return true;
        }

        private long packedTaxes() {
            long packed = 0;
            for (int h = houses - 1; h >= 0; h--) {
                packed = packed << TAX_BITS | levy.taxOf(h);
            }
            return packed;
        }

        int fittingSet(int k) {
            return k >= 0 && k < size && k < MAX_SETS ? sets[k] : NO_SUCH;
        }

        int holding(int house) {
            int holding = 0;
            for (int i = 0; i < size && i < MAX_SETS; i++) {
                holding += sets[i] >> house & 1;
            }
            return holding;
        }

        int sureOf(int house) {
            if (size == 0 || house < 0 || house >= houses) {
                return NONE;
            }
            int holding = holding(house);
            return holding == size ? 1 : holding == 0 ? 0 : NONE;
        }

        /** The HOUSE to ask for its TAX: at worst the fewest sets are left. */
        int bestQuestion() {
            if (size == 0) {
                return NONE;
            }
            int best = NONE;
            int least = MAX_SETS + 1;
            for (int h = 0; h < houses; h++) {
                int left = leftAtWorst(h);
                if (left < least) {
                    best = h;
                    least = left;
                }
            }
            return best;
        }

        private int leftAtWorst(int house) {
            for (int t = 0; t <= TAX_MASK; t++) {
                tally[t] = 0;
            }
            int most = 0;
            for (int i = 0; i < size && i < MAX_SETS; i++) {
                int tax = (int) (taxes[i] >> house * TAX_BITS) & TAX_MASK;
                tally[tax]++;
                most = Math.max(most, tally[tax]);
            }
            return most;
        }

        int fewestHouses() {
            int fewest = NONE;
            for (int i = 0; i < size && i < MAX_SETS; i++) {
                int held = Integer.bitCount(sets[i]);
                fewest = fewest == NONE ? held : Math.min(fewest, held);
            }
            return fewest;
        }

        int mostHouses() {
            int most = NONE;
            for (int i = 0; i < size && i < MAX_SETS; i++) {
                most = Math.max(most, Integer.bitCount(sets[i]));
            }
            return most;
        }

        int alikeCouples() {
            int couples = 0;
            for (int i = 0; i < size && i < MAX_SETS; i++) {
                for (int j = 0; j < i; j++) {
                    if (taxes[i] == taxes[j]) {
                        couples++;
                    }
                }
            }
            return couples;
        }
    }
}
