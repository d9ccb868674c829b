import java.util.NoSuchElementException;

/** Lakes that have a plug on a chain each: what runs out of them, what is asked of them, what is undone. */
public final class PullThePlug {
    public static final int NONE = -1;

    private static final int NOT_SO = -2;
    private static final int MISSING = -3;
    private static final int MOST_LAKES = 6;
    private static final int KINGS = 4;
    private static final int MOST_HEIRS = 6;
    private static final int LINE_SIGNS = 6;
    private static final int LAKES_SIGNS = 41;
    private static final int RULE_SIGNS = 40;
    private static final int YEAR_SIGNS = 60;
    private static final int LAW_FAULT = -10000;
    private static final int LAW_DAYS = 12;
    private static final int MOST_DAYS = 60;
    private static final int FARTHEST = 99;
    private static final int PLUG_DAYS = 40;
    private static final int RING_DAYS = 20;
    private static final int MOST_LEAK = 9;
    private static final int MOST_TAP = 9;
    private static final int MOST_LEVEL = 99;
    private static final int LINKS = 10;
    private static final int SETS = 64;
    private static final int KEPT = 2;
    /** A duck has one to five ways on; 60 can be parted by each of these numbers. */
    private static final int SHARES = 60;

    private final Text text = new Text();
    private final Row told = new Row();
    private final Land land = new Land();
    private final Water now = new Water();
    private final Water before = new Water();
    private final Water trial = new Water();
    private final Past past = new Past();
    private final Rings rings = new Rings();
    private final Duck swimmer = new Duck();
    private final Water[] kept = new Water[KEPT];
    private final int[] byKing = new int[KINGS];
    private final int[] best = new int[(MOST_HEIRS + 1) * SETS];
    private Rule inForce = new Rule();
    private Rule otherRule = new Rule();
    private Tidemarks tidemarkRoom;
    private int keptSlots;
    private int drawn;

    public PullThePlug() {
        for (int i = 0; i < KEPT; i++) {
            kept[i] = new Water();
        }
    }

    // ---- lakes

    public int sign(int v) {
        return text.add(v) ? text.size() : NONE;
    }

    public boolean end(int n) {
        return text.cut(n);
    }

    public int lakes() {
        int lines = linesTold();
        for (int i = 0; i < lines; i++) {
            addLake(i * (LINE_SIGNS + 1));
        }
        text.clear();
        if (lines > 0) {
            past.clear();
            keptSlots = 0;
        }
        return lines;
    }

    public int rule() {
        int fault = otherRule.read(text);
        text.clear();
        if (fault >= 0) {
            return -1 - fault;
        }
        Rule old = inForce;
        inForce = otherRule;
        otherRule = old;
        return 0;
    }

    public int lake(int lake, int what) throws NoSuchElementException {
        if (!land.has(lake) || what < 0 || what > 8) {
            throw new NoSuchElementException();
        }
        switch (what) {
            case 0:
                return land.brim[lake];
            case 1:
                return now.tap[lake];
            case 2:
                return now.leak[lake];
            case 3:
                return now.king[lake];
            case 4:
                return land.down[lake];
            case 5:
                return now.level[lake];
            case 6:
                return now.isOut(lake) ? 1 : 0;
            case 7:
                return now.hair[lake];
            default:
                return land.runOf(now, inForce, lake);
        }
    }

    public int sheet(int kind, int n, int f, int step) {
        if (kind < 0 || kind > 3 || n > MOST_LAKES) {
            return NONE;
        }
        if (kind == 3) {
            fillFromSheet(kind, 0, f, step);
            return MISSING;
        }
        if (n < 0) {
            return NOT_SO;
        }
        fillFromSheet(kind, n, f, step);
        return land.total(now);
    }

    // ---- days

    public int days(int n) {
        int answer = doAndRemember('n', n, 0);
        if (answer >= 0) {
            told.tell(now.spilt - before.spilt, now.dried - before.dried);
        }
        return answer;
    }

    public int pulls(int lake) {
        return doAndRemember('p', lake, 0);
    }

    public int stops(int lake) {
        return doAndRemember('s', lake, 0);
    }

    public int combs(int lake) {
        return doAndRemember('c', lake, 0);
    }

    public int taps(int lake, int v) {
        return doAndRemember('t', lake, v);
    }

    public int gives(int lake, int king) {
        return doAndRemember('g', lake, king);
    }

    public int year() {
        int fault = yearFault();
        if (fault >= 0) {
            text.clear();
            return -1 - fault;
        }
        before.copy(now);
        int done = 0;
        boolean stopped = false;
        int place = 0;
        for (int i = 0; i < YEAR_SIGNS && place < text.size() && !stopped; i++) {
            stopped = doTold(place) < 0;
            done += stopped ? 0 : 1;
            place += actSigns(text.at(place, YEAR_SIGNS));
        }
        text.clear();
        if (done > 0) {
            past.add(before);
        }
        told.tell(stopped ? 1 : 0, land.total(now));
        return done;
    }

    public int undo() {
        return past.takeInto(now) ? past.size() : NONE;
    }

    // ---- later

    public int later(int lake, int n) {
        if (!land.has(lake) || !isWithin(n, 0, FARTHEST)) {
            return NONE;
        }
        startTrial();
        land.passDays(trial, inForce, n);
        told.clear();
        for (int i = 0; i < land.size(); i++) {
            told.add(trial.level[i]);
        }
        return trial.level[lake];
    }

    public int dries(int lake) {
        if (!land.has(lake)) {
            return NONE;
        }
        startTrial();
        for (int day = 0; day <= FARTHEST; day++) {
            if (trial.level[lake] == 0) {
                told.tell(land.total(trial));
                return day;
            }
            land.passDay(trial, inForce);
        }
        return NOT_SO;
    }

    public int brims(int lake) {
        if (!land.has(lake)) {
            return NONE;
        }
        startTrial();
        for (int day = 0; day <= FARTHEST; day++) {
            if (trial.level[lake] == land.brim[lake]) {
                told.tell(trial.spilt - now.spilt);
                return day;
            }
            land.passDay(trial, inForce);
        }
        return NOT_SO;
    }

    public int marks(int lake, int n) {
        if (!land.has(lake) || !isWithin(n, 0, FARTHEST)) {
            return NONE;
        }
        startTrial();
        int least = trial.level[lake];
        int most = least;
        int leastDay = 0;
        int mostDay = 0;
        for (int day = 1; day <= n; day++) {
            land.passDay(trial, inForce);
            int level = trial.level[lake];
            if (level < least) {
                least = level;
                leastDay = day;
            }
            if (level > most) {
                most = level;
                mostDay = day;
            }
        }
        told.tell(leastDay, most, mostDay);
        return least;
    }

    public int realm(int king) {
        if (!isKing(king)) {
            return NONE;
        }
        int set = land.heldBy(now, king);
        int brim = 0;
        for (int i = 0; i < land.size(); i++) {
            if (isIn(set, i)) {
                brim += land.brim[i];
            }
        }
        told.tell(land.totalOf(now, set), brim);
        return set;
    }

    public int course(int lake) {
        if (!land.has(lake)) {
            return NONE;
        }
        told.clear();
        int many = 0;
        int at = lake;
        while (many < MOST_LAKES && land.has(at)) {
            told.add(at);
            many++;
            at = land.down[at];
        }
        return many;
    }

    public int basin(int lake) {
        if (!land.has(lake)) {
            return NONE;
        }
        int set = 0;
        int straight = 0;
        // A DOWN is always a lower number, so one way up the numbers finds all.
        for (int i = lake + 1; i < land.size(); i++) {
            int down = land.down[i];
            if (down == lake) {
                straight++;
                set |= 1 << i;
            } else if (down > lake && isIn(set, down)) {
                set |= 1 << i;
            }
        }
        told.tell(land.totalOf(now, set), straight);
        return set;
    }

    public int order(int n) {
        if (!isWithin(n, 0, FARTHEST)) {
            return NONE;
        }
        startTrial();
        told.clear();
        int dried = 0;
        for (int day = 0; day <= n; day++) {
            int dry = land.dry(trial) & ~dried;
            for (int i = 0; i < land.size(); i++) {
                if (isIn(dry, i)) {
                    told.add(i);
                }
            }
            dried |= dry;
            land.passDay(trial, inForce);
        }
        return Integer.bitCount(dried);
    }

    public int meets(int one, int other) {
        if (!land.has(one) || !land.has(other) || one == other) {
            return NONE;
        }
        startTrial();
        for (int day = 0; day <= FARTHEST; day++) {
            if (trial.level[one] == trial.level[other]) {
                told.tell(trial.level[one]);
                return day;
            }
            land.passDay(trial, inForce);
        }
        return NOT_SO;
    }

    public int richest(int n) {
        if (!isWithin(n, 0, FARTHEST)) {
            return NONE;
        }
        startTrial();
        land.passDays(trial, inForce, n);
        int king = land.richestKing(trial);
        int has = land.totalOf(trial, land.heldBy(trial, king));
        told.tell(has, land.total(trial) - has);
        return king;
    }

    public int swims(int lake, int v, int n) {
        if (!land.has(lake) || !isWithin(v, 0, MOST_LEVEL) || !isWithin(n, 1, FARTHEST)) {
            return NONE;
        }
        startTrial();
        int many = 0;
        int together = 0;
        int longest = 0;
        int first = 0;
        for (int day = 1; day <= n; day++) {
            land.passDay(trial, inForce);
            if (trial.level[lake] >= v) {
                many++;
                together++;
                longest = Math.max(longest, together);
                first = first == 0 ? day : first;
            } else {
                together = 0;
            }
        }
        told.tell(longest, first);
        return many;
    }

    // ---- plugs, taps

    public int lets(int lake, int n) {
        if (!land.has(lake) || !isWithin(n, 0, PLUG_DAYS)) {
            return NONE;
        }
        return fewestTouched(1 << lake, 1 << lake, n);
    }

    public int just(int some, int n) {
        if (!land.hasAll(some) || !isWithin(n, 0, PLUG_DAYS)) {
            return NONE;
        }
        return fewestTouched(land.all(), some, n);
    }

    public int fills(int many, int n) {
        if (!isWithin(many, 0, MOST_LAKES) || !isWithin(n, 0, PLUG_DAYS)) {
            return NONE;
        }
        if (many > land.size()) {
            return NOT_SO;
        }
        int most = NONE;
        int bestSet = 0;
        for (int set = 0; set <= land.all(); set++) {
            if (Integer.bitCount(set) == many) {
                startTrial();
                trial.out = set;
                land.passDays(trial, inForce, n);
                int total = land.total(trial);
                if (total > most) {
                    most = total;
                    bestSet = set;
                }
            }
        }
        told.tell(bestSet);
        return most;
    }

    public int needs(int lake, int v, int n) {
        if (!land.has(lake) || !isWithin(v, 0, MOST_LEVEL) || !isWithin(n, 0, MOST_DAYS)) {
            return NONE;
        }
        for (int tap = 0; tap <= MOST_TAP; tap++) {
            startTrial();
            trial.tap[lake] = tap;
            land.passDays(trial, inForce, n);
            if (trial.level[lake] >= v) {
                told.tell(trial.level[lake]);
                return tap;
            }
        }
        return NOT_SO;
    }

    public int crosses(int n) {
        if (!isWithin(n, 1, PLUG_DAYS)) {
            return NONE;
        }
        if (land.size() == 0) {
            return NOT_SO;
        }
        int least = 0;
        int lowest = NONE;
        for (int i = 0; i < land.size(); i++) {
            startTrial();
            if (trial.isOut(i)) {
                trial.hair[i] = 0;
            } else {
                trial.out |= 1 << i;
            }
            land.passDays(trial, inForce, n);
            int total = land.total(trial);
            if (lowest == NONE || total < least) {
                least = total;
                lowest = i;
            }
        }
        startTrial();
        land.passDays(trial, inForce, n);
        told.tell(1000 + land.total(trial) - least);
        return lowest;
    }

    // ---- where the leak is

    public int ring(int lake, int n, int v) {
        if (!land.has(lake) || !isWithin(n, 0, RING_DAYS) || !isWithin(v, 0, MOST_LEVEL)) {
            return NONE;
        }
        return rings.add(lake, n, v) ? rings.size() : NONE;
    }

    public int washes() {
        int many = rings.size();
        rings.clear();
        return many;
    }

    public int leaks() {
        startTrial();
        told.clear();
        told.add(trialFitsRings() ? 1 : 0);
        int many = 0;
        for (int i = 0; i < land.size(); i++) {
            for (int more = 1; more <= MOST_LEAK; more++) {
                startLeakTrial(i, more);
                if (trialFitsRings()) {
                    if (many == 0) {
                        told.add(i);
                        told.add(more);
                    }
                    many++;
                }
            }
        }
        return many;
    }

    public int reads() {
        Tidemarks tidemarks = takeTidemarks();
        if (tidemarks.size() == 0) {
            return NOT_SO;
        }
        int fewest = tidemarks.size() + 1;
        int next = 0;
        for (int i = 0; i < land.size(); i++) {
            for (int day = 0; day <= RING_DAYS; day++) {
                int left = tidemarks.mostAlike(i, day);
                if (left < fewest) {
                    fewest = left;
                    next = (RING_DAYS + 1) * i + day;
                }
            }
        }
        told.tell(fewest);
        return next;
    }

    // ---- threats, treaties

    public int threat(int some) {
        if (!land.hasAll(some)) {
            return NONE;
        }
        int odd = 0;
        for (int i = 0; i < land.size(); i++) {
            if (isIn(some, i)) {
                odd ^= now.level[i];
            }
        }
        told.clear();
        for (int i = 0; i < land.size(); i++) {
            // Who leaves heaps whose bits are all even wins, as in nim.
            int left = now.level[i] ^ odd;
            if (isIn(some, i) && left < now.level[i]) {
                told.tell(i, now.level[i] - left);
                return 1;
            }
        }
        return 0;
    }

    public int treaty(int q) {
        if (!isWithin(q, 0, 999)) {
            return NONE;
        }
        countByKing(now);
        int many = 0;
        int inSome = 0;
        int inAll = (1 << KINGS) - 1;
        for (int set = 0; set < 1 << KINGS; set++) {
            if (isLeastTreaty(set, q)) {
                many++;
                inSome |= set;
                inAll &= set;
            }
        }
        told.tell(inSome, many == 0 ? 0 : inAll);
        return many;
    }

    public int wants(int king) {
        if (!isKing(king)) {
            return NONE;
        }
        int has = land.heldBy(now, king);
        int total = land.total(now);
        for (int many = 0; many <= land.size(); many++) {
            for (int set = 0; set <= land.all(); set++) {
                if (Integer.bitCount(set) == many && 2 * land.totalOf(now, has | set) > total) {
                    told.tell(set);
                    return many;
                }
            }
        }
        return NOT_SO;
    }

    public int evens() {
        int total = land.total(now);
        int least = total;
        int bestSet = 0;
        for (int set = 2; set <= land.all(); set += 2) {
            int apart = Math.abs(total - 2 * land.totalOf(now, set));
            if (apart < least) {
                least = apart;
                bestSet = set;
            }
        }
        told.tell(bestSet);
        return least;
    }

    public int feared() {
        int king = land.richestKing(now);
        told.tell(land.total(now) - land.totalOf(now, land.heldBy(now, king)));
        return king;
    }

    public int heirs() {
        int many = text.size();
        int fault = heirsFault();
        if (fault >= 0) {
            text.clear();
            return -1 - fault;
        }
        weighHeirs(many);
        tellHeirs(many);
        text.clear();
        return best[0];
    }

    // ---- a duck, spoons

    public int duck(int from, int to, int n) {
        if (!land.has(from) || !land.has(to) || !isWithin(n, 0, 10)) {
            return NONE;
        }
        swimmer.sitOn(from);
        for (int day = 0; day < n; day++) {
            swimmer.swim(land);
        }
        long upper = swimmer.chances[to];
        long common = commonDivisor(swimmer.of, upper);
        if (common > 0) {
            told.tell(upper / common, swimmer.of / common);
        }
        return 0;
    }

    public int spoon(int lake, int v, int n) {
        if (!land.has(lake) || !isWithin(v, 1, 9) || !isWithin(n, 0, MOST_DAYS)) {
            return NONE;
        }
        startTrial();
        int took = 0;
        for (int day = 0; day < n; day++) {
            int takes = Math.min(v, trial.level[lake]);
            trial.level[lake] -= takes;
            took += takes;
            land.passDay(trial, inForce);
        }
        told.tell(took);
        return trial.level[lake];
    }

    // ---- rests, rules, years

    public int rests(int v) {
        if (!isWithin(v, 0, 20)) {
            return NONE;
        }
        told.clear();
        int many = 0;
        for (int x = 0; x < LINKS; x++) {
            for (int y = 0; y < LINKS; y++) {
                if (isBestAnswer(x, y, v) && isBestAnswer(y, x, v)) {
                    if (many == 0) {
                        told.tell(x, y);
                    }
                    many++;
                }
            }
        }
        return many;
    }

    public int law() {
        int fault = otherRule.read(text);
        text.clear();
        if (fault >= 0) {
            return LAW_FAULT - fault;
        }
        startTrial();
        land.passDays(trial, otherRule, LAW_DAYS);
        int byOther = land.total(trial);
        startTrial();
        land.passDays(trial, inForce, LAW_DAYS);
        int byRule = land.total(trial);
        told.tell(byOther, byRule);
        return byOther - byRule;
    }

    public int years(int seed, int n) {
        if (!isWithin(n, 1, MOST_DAYS)) {
            return NONE;
        }
        startTrial();
        drawn = seed;
        for (int i = 0; i < n; i++) {
            doDrawn(draw(4));
        }
        told.tell(trial.spilt - now.spilt, trial.dried - now.dried);
        return land.total(trial);
    }

    // ---- kept

    public boolean keep(int i) {
        if (!isWithin(i, 0, KEPT - 1)) {
            return false;
        }
        kept[i].copy(now);
        keptSlots |= 1 << i;
        return true;
    }

    public boolean again(int i) {
        if (!isWithin(i, 0, KEPT - 1) || !isIn(keptSlots, i)) {
            return false;
        }
        now.copy(kept[i]);
        past.clear();
        return true;
    }

    public int count(int what) {
        switch (what) {
            case 0:
                return land.size();
            case 1:
                return now.day;
            case 2:
                return now.spilt;
            case 3:
                return now.dried;
            case 4:
                return land.total(now);
            case 5:
                return now.out;
            case 6:
                return land.hairOfAll(now);
            case 7:
                return land.dry(now);
            case 8:
                return rings.size();
            case 9:
                return past.size();
            case 10:
                return told.size();
            case 11:
                return text.size();
            case 12:
                return land.brimming(now);
            default:
                return NONE;
        }
    }

    public long row(int i) throws NoSuchElementException {
        if (!told.has(i)) {
            throw new NoSuchElementException();
        }
        return told.get(i);
    }

    // ---- what the calls share

    private static boolean isWithin(int v, int least, int most) {
        return v >= least && v <= most;
    }

    private static boolean isKing(int king) {
        return king >= 0 && king < KINGS;
    }

    private static boolean isIn(int set, int i) {
        return (set >> i & 1) == 1;
    }

    private static boolean isDigit(int sign) {
        return sign >= '0' && sign <= '9';
    }

    private static boolean isKingSign(int sign) {
        return sign >= 'a' && sign < 'a' + KINGS;
    }

    private void startTrial() {
        trial.copy(now);
    }

    private void startLeakTrial(int lake, int more) {
        startTrial();
        if (land.has(lake)) {
            trial.leak[lake] += more;
        }
    }

    // ---- reading LINES

    /** How many LINES THE TEXT tells, or -1 - p for the sign at p that can't stand there. */
    private int linesTold() {
        if (text.size() == 0) {
            return 0;
        }
        int lines = 0;
        for (int place = 0; place < LAKES_SIGNS; place += LINE_SIGNS + 1) {
            int fault = lineFault(place, land.size() + lines);
            if (fault >= 0) {
                return -1 - fault;
            }
            lines++;
            int behind = place + LINE_SIGNS;
            if (text.size() == behind) {
                return lines;
            }
            if (text.at(behind, LAKES_SIGNS) != ';') {
                return -1 - behind;
            }
        }
        return -1 - LAKES_SIGNS;
    }

    /** Where the LINE from a place on, that tells of the LAKE of a number, can't go on; NONE if it can. */
    private int lineFault(int place, int number) {
        if (number >= MOST_LAKES) {
            return place;
        }
        boolean brimIsZero = true;
        for (int i = 0; i < LINE_SIGNS; i++) {
            int sign = text.at(place + i, LAKES_SIGNS);
            boolean stands = isDigit(sign);
            if (i < 2) {
                brimIsZero = brimIsZero && sign == '0';
                stands = stands && !(i == 1 && brimIsZero);
            } else if (i == 4) {
                stands = isKingSign(sign);
            } else if (i == 5) {
                stands = sign == '-' || stands && sign - '0' < number;
            }
            if (!stands) {
                return place + i;
            }
        }
        return NONE;
    }

    private void addLake(int place) {
        int lake = land.size();
        if (lake >= MOST_LAKES) {
            return;
        }
        int brim = 10 * digitAt(place) + digitAt(place + 1);
        int down = text.at(place + 5, LAKES_SIGNS);
        now.tap[lake] = digitAt(place + 2);
        now.leak[lake] = digitAt(place + 3);
        now.king[lake] = text.at(place + 4, LAKES_SIGNS) - 'a';
        now.level[lake] = brim;
        now.hair[lake] = 0;
        land.add(brim, down == '-' ? NONE : down - '0');
    }

    private int digitAt(int place) {
        return text.at(place, Text.ROOM) - '0';
    }

    private void fillFromSheet(int kind, int n, int f, int step) {
        for (int i = 0; i < land.size(); i++) {
            int entry = i < n ? entryOf(kind, f + i * step) : 0;
            now.level[i] = Math.max(0, Math.min(entry, land.brim[i]));
        }
    }

    private static int entryOf(int kind, int v) {
        if (kind == 0) {
            return (byte) v;
        }
        return kind == 1 ? (short) v : v;
    }

    // ---- ACTS

    /** Does an ACT; if it was done, undo() can take it back (a wait of no DAYS is nothing to undo). */
    private int doAndRemember(int kind, int which, int v) {
        before.copy(now);
        int answer = doAct(kind, which, v);
        boolean isEmptyWait = kind == 'n' && which == 0;
        if (answer >= 0 && !isEmptyWait) {
            past.add(before);
        }
        return answer;
    }

    private int doAct(int kind, int which, int v) {
        boolean can = kind == 'n' ? isWithin(which, 0, MOST_DAYS) : land.has(which);
        if (!can) {
            return NONE;
        }
        switch (kind) {
            case 'n':
                land.passDays(now, inForce, which);
                return land.total(now);
            case 'p':
                return movePlug(which, true);
            case 's':
                return movePlug(which, false);
            case 'c':
                return combHair(which);
            case 't':
                return isWithin(v, 0, MOST_TAP) ? changeEntry(now.tap, which, v) : NONE;
            case 'g':
                return isKing(v) ? changeEntry(now.king, which, v) : NONE;
            default:
                return NONE;
        }
    }

    private int movePlug(int lake, boolean pull) {
        if (now.isOut(lake) == pull) {
            return NOT_SO;
        }
        now.out ^= 1 << lake;
        return Integer.bitCount(now.out);
    }

    private int combHair(int lake) {
        int hair = now.hair[lake];
        now.hair[lake] = 0;
        return hair == 0 ? NOT_SO : hair;
    }

    private static int changeEntry(int[] entries, int lake, int v) {
        int old = entries[lake];
        if (old == v) {
            return NOT_SO;
        }
        entries[lake] = v;
        return 10 + old;
    }

    /** Where the sign of A YEAR is that can't stand there; NONE if all can. */
    private int yearFault() {
        int place = 0;
        for (int i = 0; i <= YEAR_SIGNS && place < text.size(); i++) {
            int kind = text.at(place, YEAR_SIGNS);
            int signs = actSigns(kind);
            if (signs == 0) {
                return place;
            }
            if (!isDigit(text.at(place + 1, YEAR_SIGNS))) {
                return place + 1;
            }
            int last = text.at(place + 2, YEAR_SIGNS);
            if (signs == 3 && !(kind == 'g' ? isKingSign(last) : isDigit(last))) {
                return place + 2;
            }
            place += signs;
        }
        return NONE;
    }

    /** How many signs an ACT of a kind has; 0 if there is none such. */
    private static int actSigns(int kind) {
        switch (kind) {
            case 'n':
            case 'p':
            case 's':
            case 'c':
                return 2;
            case 't':
            case 'g':
                return 3;
            default:
                return 0;
        }
    }

    private int doTold(int place) {
        int kind = text.at(place, YEAR_SIGNS);
        int last = text.at(place + 2, YEAR_SIGNS);
        return doAct(kind, digitAt(place + 1), kind == 'g' ? last - 'a' : last - '0');
    }

    /** What a DRAW of 4 tells, done in the trial. */
    private void doDrawn(int what) {
        if (what < 2) {
            land.passDay(trial, inForce);
            return;
        }
        if (land.size() == 0) {
            return;
        }
        int lake = draw(land.size());
        if (what == 2) {
            trial.out ^= 1 << lake;
        } else if (land.has(lake)) {
            trial.tap[lake] = draw(MOST_TAP + 1);
        }
    }

    private int draw(int n) {
        drawn = drawn * 1103515245 + 12345;
        return n > 0 ? (drawn >>> 16) % n : 0;
    }

    // ---- looking for the fewest, the best

    /** The fewest plugs touched, so that of the LAKES looked at just the dry ones are dry behind n DAYS. */
    private int fewestTouched(int lookedAt, int dry, int n) {
        for (int many = 0; many <= land.size(); many++) {
            for (int set = 0; set <= land.all(); set++) {
                if (Integer.bitCount(set) == many) {
                    startTrial();
                    trial.out ^= set;
                    land.passDays(trial, inForce, n);
                    if ((land.dry(trial) & lookedAt) == dry) {
                        told.tell(set);
                        return many;
                    }
                }
            }
        }
        return NOT_SO;
    }

    private boolean trialFitsRings() {
        int last = rings.lastDay();
        for (int day = 0; day <= last && day <= RING_DAYS; day++) {
            if (!rings.fit(day, trial.level)) {
                return false;
            }
            if (day < last) {
                land.passDay(trial, inForce);
            }
        }
        return true;
    }

    /** Takes down LEVELS of all DAYS by each leak that fits the rings. */
    private Tidemarks takeTidemarks() {
        Tidemarks tidemarks = tidemarkRoom == null ? new Tidemarks() : tidemarkRoom;
        tidemarkRoom = tidemarks;
        tidemarks.clear();
        for (int i = 0; i < land.size(); i++) {
            for (int more = 1; more <= MOST_LEAK; more++) {
                startLeakTrial(i, more);
                if (markTrial(tidemarks)) {
                    tidemarks.endLeak();
                }
            }
        }
        return tidemarks;
    }

    private boolean markTrial(Tidemarks tidemarks) {
        for (int day = 0; day <= RING_DAYS; day++) {
            if (!rings.fit(day, trial.level)) {
                return false;
            }
            tidemarks.mark(day, trial.level);
            land.passDay(trial, inForce);
        }
        return true;
    }

    private void countByKing(Water water) {
        for (int king = 0; king < KINGS; king++) {
            byKing[king] = land.totalOf(water, land.heldBy(water, king));
        }
    }

    /** Whether KINGS of a set may sign, but not without any one of them; LEVELS stand counted by KING. */
    private boolean isLeastTreaty(int set, int q) {
        int together = 0;
        for (int king = 0; king < KINGS; king++) {
            together += isIn(set, king) ? byKing[king] : 0;
        }
        if (together < q) {
            return false;
        }
        for (int king = 0; king < KINGS; king++) {
            if (isIn(set, king) && together - byKing[king] >= q) {
                return false;
            }
        }
        return true;
    }

    private int heirsFault() {
        if (text.size() == 0) {
            return 0;
        }
        for (int place = 0; place < text.size(); place++) {
            if (!isKingSign(text.at(place, MOST_HEIRS))) {
                return place;
            }
        }
        return NONE;
    }

    /** best: by HEIR and by the set of LAKES that are taken, what this one and those behind can have. */
    private void weighHeirs(int many) {
        for (int set = 0; set < SETS; set++) {
            setBest(many, set, 0);
        }
        for (int heir = many - 1; heir >= 0; heir--) {
            for (int set = 0; set <= land.all(); set++) {
                int most = bestOf(heir + 1, set);
                for (int i = 0; i < land.size(); i++) {
                    if (canHave(heir, i, set)) {
                        most = Math.max(most, now.level[i] + bestOf(heir + 1, set | 1 << i));
                    }
                }
                setBest(heir, set, most);
            }
        }
    }

    private void tellHeirs(int many) {
        told.clear();
        int set = 0;
        for (int heir = 0; heir < many; heir++) {
            int due = bestOf(heir, set);
            int takes = NONE;
            // To have none is the least, so a LAKE is taken only if it must be.
            for (int i = 0; i < land.size() && bestOf(heir + 1, set) != due && takes == NONE; i++) {
                if (canHave(heir, i, set) && now.level[i] + bestOf(heir + 1, set | 1 << i) == due) {
                    takes = i;
                }
            }
            told.add(takes);
            if (takes != NONE) {
                set |= 1 << takes;
            }
        }
    }

    private boolean canHave(int heir, int lake, int taken) {
        return !isIn(taken, lake) && now.king[lake] != text.at(heir, MOST_HEIRS) - 'a';
    }

    private int bestOf(int heir, int set) {
        int i = heir * SETS + set;
        return i >= 0 && i < best.length ? best[i] : 0;
    }

    private void setBest(int heir, int set, int v) {
        int i = heir * SETS + set;
        if (i >= 0 && i < best.length) {
            best[i] = v;
        }
    }

    private static long commonDivisor(long one, long other) {
        long a = one;
        long b = other;
        for (int i = 0; i < 1000 && b != 0; i++) {
            long rest = a % b;
            a = b;
            b = rest;
        }
        return a;
    }

    private static int gain(int own, int others, int v) {
        int has = own > others ? v : own == others ? v / 2 : 0;
        int pays = own * own / 4 + (own >= 5 && others >= 5 ? 2 : 0);
        return has - pays;
    }

    private static boolean isBestAnswer(int own, int others, int v) {
        int has = gain(own, others, v);
        for (int other = 0; other < LINKS; other++) {
            if (gain(other, others, v) > has) {
                return false;
            }
        }
        return true;
    }

    /** THE TEXT: signs that were told and not read yet. */
    private static final class Text {
        private static final int ROOM = 80;
        private static final int BEHIND = -1;

        private final int[] signs = new int[ROOM];
        private int length;

        private int size() {
            return length;
        }

        private boolean add(int v) {
            if (length > ROOM - 4) {
                return false;
            }
            for (int shift = 24; shift >= 0; shift -= 8) {
                signs[length] = v >>> shift & 255;
                length++;
            }
            return true;
        }

        private boolean cut(int n) {
            if (n < 0 || n > length) {
                return false;
            }
            length = n;
            return true;
        }

        private void clear() {
            length = 0;
        }

        /** The sign at a place; BEHIND, if THE TEXT, or what may be told, has ended there. */
        private int at(int place, int limit) {
            if (place < 0 || place >= length || place >= limit || place >= ROOM) {
                return BEHIND;
            }
            return signs[place];
        }
    }

    /** The ROW. */
    private static final class Row {
        private final long[] numbers = new long[MOST_LAKES];
        private int length;

        private int size() {
            return length;
        }

        private boolean has(int i) {
            return i >= 0 && i < length;
        }

        private long get(int i) {
            return has(i) ? numbers[i] : 0;
        }

        private void clear() {
            length = 0;
        }

        private void add(long v) {
            if (length < numbers.length) {
                numbers[length] = v;
                length++;
            }
        }

        private void tell(long v) {
            clear();
            add(v);
        }

        private void tell(long v, long w) {
            tell(v);
            add(w);
        }

        private void tell(long v, long w, long x) {
            tell(v, w);
            add(x);
        }
    }

    /** What changes by the days and the ACTS; LEAK is here so that a trial can have another one. */
    private static final class Water {
        private final int[] level = new int[MOST_LAKES];
        private final int[] hair = new int[MOST_LAKES];
        private final int[] tap = new int[MOST_LAKES];
        private final int[] leak = new int[MOST_LAKES];
        private final int[] king = new int[MOST_LAKES];
        private int out;
        private int day;
        private int spilt;
        private int dried;

        private void copy(Water other) {
            System.arraycopy(other.level, 0, level, 0, MOST_LAKES);
            System.arraycopy(other.hair, 0, hair, 0, MOST_LAKES);
            System.arraycopy(other.tap, 0, tap, 0, MOST_LAKES);
            System.arraycopy(other.leak, 0, leak, 0, MOST_LAKES);
            System.arraycopy(other.king, 0, king, 0, MOST_LAKES);
            out = other.out;
            day = other.day;
            spilt = other.spilt;
            dried = other.dried;
        }

        private boolean isOut(int lake) {
            return isIn(out, lake);
        }
    }

    /** What stays of the LAKES, and how a DAY goes over the water in them. */
    private static final class Land {
        private static final int MOST_HAIR = 9;
        private static final int MOST_SPILT = 9999;
        private static final int MOST_DRIED = 999;
        private static final int WEEK = 7;

        private final int[] brim = new int[MOST_LAKES];
        private final int[] down = new int[MOST_LAKES];
        private final int[] runs = new int[MOST_LAKES];
        private final int[] next = new int[MOST_LAKES];
        private int known;

        private int size() {
            return known;
        }

        private boolean has(int lake) {
            return lake >= 0 && lake < known;
        }

        private int all() {
            return (1 << known) - 1;
        }

        private boolean hasAll(int set) {
            return (set & ~all()) == 0;
        }

        private void add(int itsBrim, int itsDown) {
            if (known < MOST_LAKES) {
                brim[known] = itsBrim;
                down[known] = itsDown;
                known++;
            }
        }

        private int runOf(Water water, Rule by, int lake) {
            if (!has(lake) || !water.isOut(lake)) {
                return 0;
            }
            int level = water.level[lake];
            int plugs = Integer.bitCount(water.out);
            int run = by.worth(level, brim[lake], water.hair[lake], water.tap[lake], plugs, water.day % WEEK);
            return Math.max(0, Math.min(run, level));
        }

        private void passDays(Water water, Rule by, int n) {
            for (int i = 0; i < n; i++) {
                passDay(water, by);
            }
        }

        private void passDay(Water water, Rule by) {
            for (int i = 0; i < known; i++) {
                runs[i] = runOf(water, by, i);
                int rest = water.level[i] - runs[i];
                next[i] = rest - Math.min(rest, water.leak[i]) + water.tap[i];
            }
            for (int i = 0; i < known; i++) {
                if (has(down[i])) {
                    next[down[i]] += runs[i];
                }
            }
            for (int i = 0; i < known; i++) {
                endDay(water, i);
            }
            water.day++;
        }

        private void endDay(Water water, int lake) {
            int over = Math.max(0, next[lake] - brim[lake]);
            int level = next[lake] - over;
            water.spilt = Math.min(MOST_SPILT, water.spilt + over);
            if (water.level[lake] > 0 && level == 0) {
                water.dried = Math.min(MOST_DRIED, water.dried + 1);
            }
            if (water.isOut(lake)) {
                water.hair[lake] = Math.min(MOST_HAIR, water.hair[lake] + 1);
            }
            water.level[lake] = level;
        }

        private int total(Water water) {
            return totalOf(water, all());
        }

        private int totalOf(Water water, int set) {
            int total = 0;
            for (int i = 0; i < known; i++) {
                total += isIn(set, i) ? water.level[i] : 0;
            }
            return total;
        }

        private int hairOfAll(Water water) {
            int total = 0;
            for (int i = 0; i < known; i++) {
                total += water.hair[i];
            }
            return total;
        }

        private int dry(Water water) {
            int set = 0;
            for (int i = 0; i < known; i++) {
                set |= water.level[i] == 0 ? 1 << i : 0;
            }
            return set;
        }

        private int brimming(Water water) {
            int set = 0;
            for (int i = 0; i < known; i++) {
                set |= water.level[i] == brim[i] ? 1 << i : 0;
            }
            return set;
        }

        private int heldBy(Water water, int king) {
            int set = 0;
            for (int i = 0; i < known; i++) {
                set |= water.king[i] == king ? 1 << i : 0;
            }
            return set;
        }

        private int richestKing(Water water) {
            int most = NONE;
            int richest = 0;
            for (int king = 0; king < KINGS; king++) {
                int has = totalOf(water, heldBy(water, king));
                if (has > most) {
                    most = has;
                    richest = king;
                }
            }
            return richest;
        }
    }

    /** A RULE as parts in the order in which they are worked out: things ahead of what joins them. */
    private static final class Rule {
        private static final int DEEPEST = 4;
        private static final int THINGS = 6;
        private static final int THING = 1000;
        private static final int WORK = 2000;
        private static final int NEGATE = WORK + '!';

        private final int[] parts = new int[RULE_SIGNS];
        private final int[] stack = new int[RULE_SIGNS];
        private final int[] things = new int[THINGS];
        private int length;
        private Text source;
        private int at;

        /** Where the sign is that can't stand there; NONE, if the whole text is a RULE, or empty. */
        private int read(Text text) {
            source = text;
            length = 0;
            at = 0;
            if (text.size() == 0 || readExpression(0) && at == text.size()) {
                return NONE;
            }
            return at;
        }

        private int here() {
            return source == null ? Text.BEHIND : source.at(at, RULE_SIGNS);
        }

        private void addPart(int part) {
            if (length < parts.length) {
                parts[length] = part;
                length++;
            }
        }

        private boolean readExpression(int depth) {
            if (!readSum(depth)) {
                return false;
            }
            int sign = here();
            if (sign != '<' && sign != '>' && sign != '=') {
                return true;
            }
            at++;
            if (!readSum(depth)) {
                return false;
            }
            addPart(WORK + sign);
            return true;
        }

        private boolean readSum(int depth) {
            if (!readProduct(depth)) {
                return false;
            }
            for (int i = 0; i < RULE_SIGNS; i++) {
                int sign = here();
                if (sign != '+' && sign != '-') {
                    return true;
                }
                at++;
                if (!readProduct(depth)) {
                    return false;
                }
                addPart(WORK + sign);
            }
            return true;
        }

        private boolean readProduct(int depth) {
            if (!readSigned(depth)) {
                return false;
            }
            for (int i = 0; i < RULE_SIGNS; i++) {
                int sign = here();
                if (sign != '*' && sign != '/') {
                    return true;
                }
                at++;
                if (!readSigned(depth)) {
                    return false;
                }
                addPart(WORK + sign);
            }
            return true;
        }

        private boolean readSigned(int depth) {
            boolean isNegated = false;
            for (int i = 0; i < RULE_SIGNS && here() == '-'; i++) {
                isNegated = !isNegated;
                at++;
            }
            if (!readThing(depth)) {
                return false;
            }
            if (isNegated) {
                addPart(NEGATE);
            }
            return true;
        }

        private boolean readThing(int depth) {
            int sign = here();
            if (isDigit(sign)) {
                readNumber();
                return true;
            }
            if (sign == '(') {
                return depth < DEEPEST && readInside(depth + 1);
            }
            int thing = thingOf(sign);
            if (thing == NONE) {
                return false;
            }
            at++;
            addPart(THING + thing);
            return true;
        }

        private boolean readInside(int depth) {
            at++;
            if (!readExpression(depth) || here() != ')') {
                return false;
            }
            at++;
            return true;
        }

        private void readNumber() {
            int number = 0;
            for (int i = 0; i < 3 && isDigit(here()); i++) {
                number = 10 * number + here() - '0';
                at++;
            }
            addPart(number);
        }

        private static int thingOf(int sign) {
            switch (sign) {
                case 'l':
                    return 0;
                case 'b':
                    return 1;
                case 'h':
                    return 2;
                case 't':
                    return 3;
                case 'k':
                    return 4;
                case 'n':
                    return 5;
                default:
                    return NONE;
            }
        }

        private int worth(int level, int brim, int hair, int tap, int plugs, int day) {
            if (length == 0) {
                return (level + 2) / 3 - hair;
            }
            things[0] = level;
            things[1] = brim;
            things[2] = hair;
            things[3] = tap;
            things[4] = plugs;
            things[5] = day;
            int top = 0;
            for (int i = 0; i < length && i < RULE_SIGNS; i++) {
                int part = parts[i];
                if (part < WORK && top < RULE_SIGNS) {
                    stack[top] = part < THING ? part : thing(part - THING);
                    top++;
                } else if (part == NEGATE && top > 0) {
                    stack[top - 1] = -stack[top - 1];
                } else if (top > 1) {
                    top--;
                    stack[top - 1] = joined(part - WORK, stack[top - 1], stack[top]);
                }
            }
            return stack[0];
        }

        private int thing(int i) {
            return i >= 0 && i < THINGS ? things[i] : 0;
        }

        private static int joined(int sign, int a, int b) {
            switch (sign) {
                case '+':
                    return a + b;
                case '-':
                    return a - b;
                case '*':
                    return a * b;
                case '/':
                    return b == 0 ? 0 : a / b;
                case '<':
                    return a < b ? 1 : 0;
                case '>':
                    return a > b ? 1 : 0;
                default:
                    return a == b ? 1 : 0;
            }
        }
    }

    /** What undo() can bring back, the latest last. */
    private static final class Past {
        private static final int ROOM = 12;

        private final Water[] waters = new Water[ROOM];
        private int length;

        private Past() {
            for (int i = 0; i < ROOM; i++) {
                waters[i] = new Water();
            }
        }

        private int size() {
            return length;
        }

        private void clear() {
            length = 0;
        }

        private void add(Water water) {
            if (length == ROOM) {
                dropOldest();
            }
            if (length < ROOM) {
                waters[length].copy(water);
                length++;
            }
        }

        /** The oldest one's object is used again for the next that comes. */
        private void dropOldest() {
            Water oldest = waters[0];
            for (int i = 1; i < ROOM; i++) {
                waters[i - 1] = waters[i];
            }
            waters[ROOM - 1] = oldest;
            length = ROOM - 1;
        }

        private boolean takeInto(Water water) {
            if (length <= 0 || length > ROOM) {
                return false;
            }
            length--;
            water.copy(waters[length]);
            return true;
        }
    }

    /** Rings that were read: of which LAKE, in how many DAYS, which LEVEL. */
    private static final class Rings {
        private static final int ROOM = 10;

        private final int[] lakeOf = new int[ROOM];
        private final int[] dayOf = new int[ROOM];
        private final int[] levelOf = new int[ROOM];
        private int length;

        private int size() {
            return length;
        }

        private void clear() {
            length = 0;
        }

        private boolean add(int lake, int day, int level) {
            if (length >= ROOM) {
                return false;
            }
            lakeOf[length] = lake;
            dayOf[length] = day;
            levelOf[length] = level;
            length++;
            return true;
        }

        /** The last DAY that a ring tells of; NONE without rings. */
        private int lastDay() {
            int last = NONE;
            for (int i = 0; i < length; i++) {
                last = Math.max(last, dayOf[i]);
            }
            return last;
        }

        private boolean fit(int day, int[] level) {
            for (int i = 0; i < length; i++) {
                int lake = lakeOf[i];
                boolean isThere = lake >= 0 && lake < level.length;
                if (isThere && dayOf[i] == day && level[lake] != levelOf[i]) {
                    return false;
                }
            }
            return true;
        }
    }

    /** LEVELS by leak, DAY and LAKE, of leaks that fit. It is large, so it is made for the first who reads. */
    private static final class Tidemarks {
        private static final int DAYS = RING_DAYS + 1;
        private static final int LEAK_MARKS = DAYS * MOST_LAKES;
        private static final int LEAKS = MOST_LAKES * MOST_LEAK;

        private final int[] marked = new int[LEAKS * LEAK_MARKS];
        private final int[] alike = new int[MOST_LEVEL + 1];
        private int length;

        private int size() {
            return length;
        }

        private void clear() {
            length = 0;
        }

        private void mark(int day, int[] level) {
            int start = length * LEAK_MARKS + day * MOST_LAKES;
            if (start >= 0 && start <= marked.length - MOST_LAKES && level.length == MOST_LAKES) {
                System.arraycopy(level, 0, marked, start, MOST_LAKES);
            }
        }

        private void endLeak() {
            length++;
        }

        /** How many leaks at most have a LEVEL of a LAKE behind a DAY in common. */
        private int mostAlike(int lake, int day) {
            for (int i = 0; i < alike.length; i++) {
                alike[i] = 0;
            }
            int most = 0;
            int place = day * MOST_LAKES + lake;
            for (int i = 0; i < length && place >= 0 && place < marked.length; i++) {
                int level = marked[place];
                if (level >= 0 && level < alike.length) {
                    alike[level]++;
                    most = Math.max(most, alike[level]);
                }
                place += LEAK_MARKS;
            }
            return most;
        }
    }

    /** A duck's chances to be on each LAKE, as parts of one common number. */
    private static final class Duck {
        private final long[] chances = new long[MOST_LAKES];
        private final long[] next = new long[MOST_LAKES];
        private long of;

        private void sitOn(int lake) {
            for (int i = 0; i < MOST_LAKES; i++) {
                chances[i] = i == lake ? 1 : 0;
            }
            of = 1;
        }

        private void swim(Land land) {
            for (int i = 0; i < MOST_LAKES; i++) {
                next[i] = 0;
            }
            for (int i = 0; i < land.size(); i++) {
                swimFrom(land, i);
            }
            for (int i = 0; i < MOST_LAKES; i++) {
                chances[i] = next[i];
            }
            of *= SHARES;
        }

        private void swimFrom(Land land, int lake) {
            int ways = 0;
            for (int i = 0; i < land.size(); i++) {
                ways += isWay(land, lake, i) ? 1 : 0;
            }
            if (ways == 0) {
                next[lake] += chances[lake] * SHARES;
                return;
            }
            long share = chances[lake] * (SHARES / ways);
            for (int i = 0; i < land.size(); i++) {
                next[i] += isWay(land, lake, i) ? share : 0;
            }
        }

        private static boolean isWay(Land land, int one, int other) {
            return land.down[one] == other || land.down[other] == one;
        }
    }
}
