import java.util.NoSuchElementException;

/** A viaduct that is held up by the purring of the cats in its arches; ../shared/DOC.md says what each call promises. */
public final class PurringHolds {
    public static final int NONE = -1;

    /** What calls answer that can't be done or find nothing, though they were not refused. */
    private static final int CANNOT = -2;
    private static final int CANNOT_EITHER = -3;
    private static final int NO_SUCH_ARCH = -100;
    private static final int LAW_FAULT = -10000;

    private static final int MOST_ARCHES = 6;
    private static final int MOST_CATS = 8;
    private static final int MOST_SIGNS = 80;
    private static final int MOST_RULE = 40;
    private static final int MOST_NIGHT = 60;
    private static final int MOST_TRAINS = 20;
    private static final int MOST_HOLD = 72;
    private static final int MOST_FELT = 10;
    private static final int MOST_HEARD = 12;
    private static final int LONGEST_NOTES = 12;
    private static final int MOST_UNDONE = 12;
    private static final int MOST_KEPT = 2;
    private static final int MOST_DROPS = 9999;
    private static final int MOST_LITTER = 40;
    private static final int LONGEST_ROW = 8;
    /** Far above what two numbers up to 100,000,000 can need. */
    private static final int MOST_STEPS_OF_DIVISION = 1000;
    private static final int HIGHEST = 9;
    private static final int FIRST_STORE = 30;
    private static final int HOURS_SEEN = 100;
    private static final int LAW_HOURS = 10;
    private static final int KINDS_OF_HEARD = 5;

    /** Entry a has bit m where m, a set of arches, is without arch a. */
    private static final long[] SETS_WITHOUT = {
        0x5555555555555555L, 0x3333333333333333L, 0x0F0F0F0F0F0F0F0FL,
        0x00FF00FF00FF00FFL, 0x0000FFFF0000FFFFL, 0x00000000FFFFFFFFL,
    };

    private final Text text = new Text();
    private final Row told = new Row();
    private final Viaduct now = new Viaduct();
    private final Viaduct before = new Viaduct();
    private final Viaduct trial = new Viaduct();
    private final Past past = new Past();
    private final Viaduct[] kept = new Viaduct[MOST_KEPT];
    private final Notes feltNotes = new Notes(MOST_FELT);
    private final Notes heardNotes = new Notes(MOST_HEARD);
    private final Draws draws = new Draws();
    private final int[] purrs = new int[MOST_CATS];
    private final int[] alone = new int[MOST_CATS];
    private final int[] nimbers = new int[MOST_LITTER + 1];
    private final long[] ways = new long[MOST_HOLD + 1];
    private Rule ruling = new Rule();
    private Rule spare = new Rule();

    public PurringHolds() {
    }

    // ---- arches, cats

    public int sign(int v) {
        return text.addFour(v);
    }

    public boolean end(int n) {
        if (n < 0 || n > text.length) {
            return false;
        }
        text.length = n;
        return true;
    }

    public int arches() {
        int fault = text.faultInLines(1, MOST_ARCHES, MOST_ARCHES - now.arches, HIGHEST + 1);
        int lines = fault == NONE ? text.linesOf(1) : 0;
        for (int i = 0; i < lines; i++) {
            now.addArch(text.digit(2 * i));
        }
        return linesTaken(fault, lines);
    }

    public int cats() {
        int fault = text.faultInLines(3, MOST_CATS, MOST_CATS - now.cats, now.arches);
        int lines = fault == NONE ? text.linesOf(3) : 0;
        for (int i = 0; i < lines; i++) {
            now.addCat(text.digit(4 * i), text.digit(4 * i + 1), text.digit(4 * i + 2));
        }
        return linesTaken(fault, lines);
    }

    private int linesTaken(int fault, int lines) {
        text.length = 0;
        if (lines > 0) {
            past.size = 0;
        }
        return fault == NONE ? lines : -1 - fault;
    }

    public int rule() {
        int fault = readSpare();
        if (fault != NONE) {
            return -1 - fault;
        }
        Rule read = spare;
        spare = ruling;
        ruling = read;
        return 0;
    }

    /** THE TEXT is read into the spare rule, so that a fault in it leaves THE RULE as it is. */
    private int readSpare() {
        int fault = spare.read(text);
        text.length = 0;
        return fault;
    }

    public int arch(int arch, int what) throws NoSuchElementException {
        if (now.hasArch(arch)) {
            switch (what) {
                case 0:
                    return now.load[arch];
                case 1:
                    return now.sag[arch];
                case 2:
                    return now.catsIn(arch);
                case 3:
                    return now.holdOf(ruling, arch);
                default:
                    break;
            }
        }
        throw new NoSuchElementException();
    }

    public int cat(int cat, int what) throws NoSuchElementException {
        if (now.hasCat(cat)) {
            switch (what) {
                case 0:
                    return now.joy[cat];
                case 1:
                    return now.bowl[cat];
                case 2:
                    return now.grief[cat];
                case 3:
                    return now.place[cat];
                case 4:
                    return now.purrOf(ruling, cat);
                default:
                    break;
            }
        }
        throw new NoSuchElementException();
    }

    public int sheet(int kind, int n, int f, int step) {
        if (kind < 0 || kind > 3 || n > MOST_ARCHES) {
            return NONE;
        }
        if (kind != 3 && n < 0) {
            return CANNOT;
        }
        int entries = kind == 3 ? 0 : n;
        for (int a = 0; a < now.arches; a++) {
            now.load[a] = a < entries ? entryOf(kind, f + a * step) : 0;
        }
        return kind == 3 ? CANNOT_EITHER : now.allLoads();
    }

    private static int entryOf(int kind, int v) {
        int entry = kind == 0 ? (byte) v : kind == 1 ? (short) v : v;
        return asDigit(entry);
    }

    private static int asDigit(int v) {
        return Math.max(0, Math.min(HIGHEST, v));
    }

    // ---- hours, cats, trains

    public int hours(int n) {
        if (n < 0 || n > 60) {
            return NONE;
        }
        before.become(now);
        int dropped = now.passHours(ruling, n);
        if (n > 0) {
            past.add(before);
        }
        told.anew().add(dropped).add(now.allJoy());
        return now.allSags();
    }

    public int feeds(int cat, int n) {
        before.become(now);
        return remembered(now.feed(cat, n));
    }

    public int pets(int cat) {
        before.become(now);
        return remembered(now.pet(cat));
    }

    public int grieves(int cat, int n) {
        before.become(now);
        return remembered(now.sadden(cat, n));
    }

    public int sets(int cat, int arch) {
        before.become(now);
        return remembered(now.seat(cat, arch));
    }

    public int loads(int arch, int v) {
        before.become(now);
        return remembered(now.burden(arch, v));
    }

    /** Only what was done can be undone. */
    private int remembered(int answer) {
        if (answer >= 0) {
            past.add(before);
        }
        return answer;
    }

    public int night() {
        int fault = text.faultInNight();
        if (fault != NONE) {
            text.length = 0;
            return -1 - fault;
        }
        before.become(now);
        int done = 0;
        int stopped = 0;
        for (int p = 0; p < text.length && stopped == 0; p += 1 + digitsOfAct(text.at(p))) {
            if (act(text.at(p), text.digit(p + 1), text.digit(p + 2)) < 0) {
                stopped = 1;
            } else {
                done++;
            }
        }
        text.length = 0;
        if (done > 0) {
            past.add(before);
        }
        told.anew().add(stopped).add(now.allSags());
        return done;
    }

    private int act(int kind, int first, int second) {
        switch (kind) {
            case 'n':
                return now.passHours(ruling, first);
            case 'f':
                return now.feed(first, second);
            case 'p':
                return now.pet(first);
            case 'g':
                return now.sadden(first, second);
            case 's':
                return now.seat(first, second);
            case 'l':
                return now.burden(first, second);
            default:
                return NONE;
        }
    }

    /** 0: no ACT begins so. */
    private static int digitsOfAct(int kind) {
        switch (kind) {
            case 'n':
            case 'p':
                return 1;
            case 'f':
            case 'g':
            case 's':
            case 'l':
                return 2;
            default:
                return 0;
        }
    }

    public int undo() {
        return past.bringBack(now) ? past.size : NONE;
    }

    // ---- what holds

    public int holds() {
        int held = now.heldArches(ruling);
        int lack = 0;
        for (int a = 0; a < now.arches; a++) {
            lack += Math.max(0, now.load[a] - now.holdOf(ruling, a));
        }
        told.anew().add(Integer.bitCount(held)).add(lack);
        return held;
    }

    public int later(int arch, int n) {
        if (!now.hasArch(arch) || n < 0 || n >= HOURS_SEEN) {
            return NONE;
        }
        trial.become(now);
        trial.passHours(ruling, n);
        told.anew().add(trial.holdOf(ruling, arch)).add(trial.allSags());
        return trial.sag[arch];
    }

    public int when(int arch, int v) {
        if (!now.hasArch(arch) || v < 0 || v > HIGHEST) {
            return NONE;
        }
        int first = CANNOT;
        int often = 0;
        trial.become(now);
        for (int h = 0; h < HOURS_SEEN; h++) {
            if (trial.sag[arch] >= v) {
                often++;
                first = first == CANNOT ? h : first;
            }
            trial.passHour(ruling);
        }
        return toldIfFound(first, often);
    }

    public int down() {
        trial.become(now);
        for (int h = 0; h < HOURS_SEEN; h++) {
            int which = trial.lowestArches();
            if (which != 0) {
                told.anew().add(which);
                return h;
            }
            trial.passHour(ruling);
        }
        return CANNOT;
    }

    public int safe() {
        int first = CANNOT;
        int often = 0;
        trial.become(now);
        for (int h = 0; h < HOURS_SEEN; h++) {
            if (trial.allSags() == 0) {
                often++;
                first = first == CANNOT ? h : first;
            }
            trial.passHour(ruling);
        }
        return toldIfFound(first, often);
    }

    private int toldIfFound(int found, int number) {
        if (found >= 0) {
            told.anew().add(number);
        }
        return found;
    }

    public int loudest(int n) {
        if (n < 0 || n >= HOURS_SEEN) {
            return NONE;
        }
        trial.become(now);
        int most = trial.allHold(ruling);
        int least = most;
        int whenMost = 0;
        int whenLeast = 0;
        for (int h = 1; h <= n; h++) {
            trial.passHour(ruling);
            int hold = trial.allHold(ruling);
            if (hold > most) {
                most = hold;
                whenMost = h;
            }
            if (hold < least) {
                least = hold;
                whenLeast = h;
            }
        }
        told.anew().add(whenMost).add(least).add(whenLeast);
        return most;
    }

    public int weakest() {
        int weakest = CANNOT;
        int most = 0;
        for (int a = 0; a < now.arches; a++) {
            int lack = now.load[a] - now.holdOf(ruling, a);
            if (weakest == CANNOT || lack > most) {
                weakest = a;
                most = lack;
            }
        }
        return toldIfFound(weakest, 100 + most);
    }

    // ---- cats to arches

    public int trades() {
        int most = Integer.bitCount(now.heldArches(ruling));
        int one = NONE;
        int other = NONE;
        trial.become(now);
        for (int c = 0; c < now.cats; c++) {
            for (int d = c + 1; d < now.cats; d++) {
                trial.place[c] = now.place[d];
                trial.place[d] = now.place[c];
                int held = Integer.bitCount(trial.heldArches(ruling));
                if (held > most) {
                    most = held;
                    one = c;
                    other = d;
                }
                trial.place[d] = now.place[d];
            }
            trial.place[c] = now.place[c];
        }
        told.anew();
        if (one != NONE) {
            told.add(one).add(other);
        }
        return most;
    }

    public int needs(int arch) {
        if (!now.hasArch(arch)) {
            return NONE;
        }
        int fewest = CANNOT;
        int who = 0;
        int howMuch = 0;
        for (int set = 0; set < 1 << now.cats; set++) {
            int size = Integer.bitCount(set);
            if (fewest == CANNOT || size < fewest) {
                int hold = now.holdBy(ruling, arch, set);
                if (hold >= now.load[arch]) {
                    fewest = size;
                    who = set;
                    howMuch = hold;
                }
            }
        }
        if (fewest >= 0) {
            told.anew().add(who).add(howMuch);
        }
        return fewest;
    }

    public int guards() {
        findWhoHoldsAlone();
        int open = now.loadedArches();
        int free = (1 << now.cats) - 1;
        int left = mostGuarded(open, free);
        int most = left + now.arches - Integer.bitCount(open);
        told.anew();
        for (int a = 0; a < now.arches; a++) {
            open &= ~(1 << a);
            int guard = leastGuard(a, open, free, left);
            if (guard != NONE) {
                free &= ~(1 << guard);
                left--;
            }
            told.add(guard);
        }
        return most;
    }

    /** An arch without load is left out: it needs nobody, and nobody comes first in the row. */
    private void findWhoHoldsAlone() {
        for (int c = 0; c < now.cats; c++) {
            alone[c] = 0;
            for (int a = 0; a < now.arches; a++) {
                if (now.load[a] > 0 && ruling.purr(now, c, a, 0) >= now.load[a]) {
                    alone[c] |= 1 << a;
                }
            }
        }
    }

    /** The least cat, or none, by which the arch and those still open come to as many as are due. */
    private int leastGuard(int arch, int open, int free, int due) {
        if (mostGuarded(open, free) == due) {
            return NONE;
        }
        for (int c = 0; c < now.cats; c++) {
            boolean could = (free >> c & alone[c] >> arch & 1) == 1;
            if (could && 1 + mostGuarded(open, free & ~(1 << c)) == due) {
                return c;
            }
        }
        return NONE;
    }

    /** The most of these arches that these cats hold, each cat one. Bit m of sets: the set m of arches can be held so. */
    private int mostGuarded(int open, int free) {
        long sets = 1;
        for (int c = 0; c < now.cats; c++) {
            long more = sets;
            int could = (free >> c & 1) == 1 ? alone[c] & open : 0;
            for (int a = 0; a < now.arches; a++) {
                if ((could >> a & 1) == 1) {
                    more |= (sets & SETS_WITHOUT[a]) << (1 << a);
                }
            }
            sets = more;
        }
        int most = 0;
        for (int set = 0; set < 1 << now.arches; set++) {
            if ((sets >> set & 1) == 1) {
                most = Math.max(most, Integer.bitCount(set));
            }
        }
        return most;
    }

    public int best(int cat, int n) {
        if (!now.hasCat(cat) || n < 1 || n > 30) {
            return NONE;
        }
        int where = NONE;
        int least = 0;
        for (int a = 0; a < now.arches; a++) {
            trial.become(now);
            trial.place[cat] = a;
            trial.passHours(ruling, n);
            if (where == NONE || trial.allSags() < least) {
                where = a;
                least = trial.allSags();
            }
        }
        told.anew().add(least).add(sagsIn(n));
        return where;
    }

    private int sagsIn(int n) {
        trial.become(now);
        trial.passHours(ruling, n);
        return trial.allSags();
    }

    public int cheers(int n) {
        if (n < 1 || n > 30) {
            return NONE;
        }
        int who = CANNOT;
        int least = 0;
        for (int c = 0; c < now.cats; c++) {
            trial.become(now);
            trial.joy[c] = asDigit(now.joy[c] + 1);
            trial.passHours(ruling, n);
            if (who == CANNOT || trial.allSags() < least) {
                who = c;
                least = trial.allSags();
            }
        }
        if (who >= 0) {
            told.anew().add(least).add(sagsIn(n));
        }
        return who;
    }

    public int bears(int arch) {
        int fault = text.faultInTrains();
        int answer = fault != NONE ? -1 - fault : now.hasArch(arch) ? trainsBorne(arch) : NO_SUCH_ARCH;
        text.length = 0;
        return answer;
    }

    private int trainsBorne(int arch) {
        trial.become(now);
        int borne = 0;
        boolean bearing = true;
        for (int h = 0; h < text.length; h++) {
            trial.load[arch] = text.digit(h);
            bearing = bearing && trial.holdOf(ruling, arch) >= trial.load[arch];
            borne += bearing ? 1 : 0;
            trial.passHour(ruling);
        }
        told.anew().add(trial.sag[arch]);
        return borne;
    }

    // ---- the trolley

    public int trolley(int arch) {
        if (!now.hasArch(arch)) {
            return NONE;
        }
        int low = now.farthestSagging(arch, -1);
        int high = now.farthestSagging(arch, 1);
        boolean endsLow = high == arch || low < arch && high - arch <= arch - low;
        told.anew().add(endsLow ? low : high);
        return stepsOf(arch, low, high);
    }

    public int depot() {
        int where = CANNOT;
        int fewest = 0;
        for (int a = 0; a < now.arches; a++) {
            int steps = stepsOf(a, now.farthestSagging(a, -1), now.farthestSagging(a, 1));
            if (where == CANNOT || steps < fewest) {
                where = a;
                fewest = steps;
            }
        }
        return toldIfFound(where, fewest);
    }

    /** The nearer end comes first, since the way to it is gone twice. */
    private static int stepsOf(int arch, int low, int high) {
        return high - low + Math.min(arch - low, high - arch);
    }

    // ---- who grieves

    public int felt(int arch, int h) {
        if (!now.hasArch(arch) || h < 0 || h > MOST_HOLD) {
            return NONE;
        }
        return feltNotes.add(arch, h);
    }

    public int forget() {
        return feltNotes.empty();
    }

    public int fits() {
        findPurrs();
        int who = fittingCats();
        told.anew().add(Integer.bitCount(who)).add(fitsWithout(NONE) ? 1 : 0);
        return who;
    }

    private void findPurrs() {
        for (int c = 0; c < now.cats; c++) {
            purrs[c] = now.purrOf(ruling, c);
        }
    }

    private int fittingCats() {
        int who = 0;
        for (int c = 0; c < now.cats; c++) {
            who |= fitsWithout(c) ? 1 << c : 0;
        }
        return who;
    }

    private boolean fitsWithout(int silent) {
        for (int i = 0; i < feltNotes.size; i++) {
            if (holdWithout(feltNotes.first[i], silent) != feltNotes.second[i]) {
                return false;
            }
        }
        return true;
    }

    private int holdWithout(int arch, int silent) {
        int hold = 0;
        for (int c = 0; c < now.cats; c++) {
            hold += now.place[c] == arch && c != silent ? purrs[c] : 0;
        }
        return hold;
    }

    public int feels() {
        findPurrs();
        int who = fittingCats();
        int where = CANNOT;
        int fewest = 0;
        for (int a = 0; a < now.arches && who != 0; a++) {
            int left = mostLeft(a, who);
            if (where == CANNOT || left < fewest) {
                where = a;
                fewest = left;
            }
        }
        return toldIfFound(where, fewest);
    }

    private int mostLeft(int arch, int who) {
        int most = 0;
        for (int c = 0; c < now.cats; c++) {
            int alike = 0;
            for (int d = 0; d < now.cats; d++) {
                boolean both = (who >> c & who >> d & 1) == 1;
                alike += both && holdWithout(arch, c) == holdWithout(arch, d) ? 1 : 0;
            }
            most = Math.max(most, alike);
        }
        return most;
    }

    public int spreads(int cat, int n) {
        if (!now.hasCat(cat) || n < 0 || n > HIGHEST) {
            return NONE;
        }
        int reached = 1 << cat;
        int answer = reached;
        int fewest = 0;
        for (int h = 1; h <= HIGHEST; h++) {
            int next = now.spreadFrom(reached);
            fewest = next == reached ? fewest : h;
            reached = next;
            answer = h <= n ? reached : answer;
        }
        told.anew().add(Integer.bitCount(answer)).add(fewest);
        return answer;
    }

    // ---- which cat it was

    public int heard(int what, int v) {
        if (v < 0 || v > highestHeard(what)) {
            return NONE;
        }
        return heardNotes.add(what, v);
    }

    /** The highest v that may be heard of it; below 0: nothing may. */
    private static int highestHeard(int what) {
        switch (what) {
            case 0:
            case 1:
            case 3:
                return HIGHEST;
            case 2:
                return MOST_ARCHES - 1;
            case 4:
                return 1;
            default:
                return NONE;
        }
    }

    public int denies() {
        return heardNotes.empty();
    }

    public int suits() {
        findPurrs();
        int who = suitingCats();
        told.anew().add(Integer.bitCount(who));
        return who;
    }

    private int suitingCats() {
        int who = (1 << now.cats) - 1;
        for (int i = 0; i < heardNotes.size; i++) {
            who &= catsOfWhom(heardNotes.first[i], heardNotes.second[i]);
        }
        return who;
    }

    private int catsOfWhom(int what, int v) {
        int who = 0;
        for (int c = 0; c < now.cats; c++) {
            who |= isSo(c, what, v) ? 1 << c : 0;
        }
        return who;
    }

    private boolean isSo(int cat, int what, int v) {
        switch (what) {
            case 0:
                return now.joy[cat] >= v;
            case 1:
                return now.bowl[cat] >= v;
            case 2:
                return now.place[cat] == v;
            case 3:
                return purrs[cat] >= v;
            default:
                return now.grief[cat] > 0 == (v == 1);
        }
    }

    public int asks() {
        findPurrs();
        int who = suitingCats();
        int all = Integer.bitCount(who);
        int question = CANNOT;
        int fewest = 0;
        for (int what = 0; what < KINDS_OF_HEARD && all > 0; what++) {
            for (int v = 0; v <= highestHeard(what); v++) {
                int so = Integer.bitCount(who & catsOfWhom(what, v));
                int left = Math.max(so, all - so);
                if (question == CANNOT || left < fewest) {
                    question = 10 * what + v;
                    fewest = left;
                }
            }
        }
        return toldIfFound(question, fewest);
    }

    // ---- chances, litters

    public int odds(int arch, int p) {
        if (!now.hasArch(arch) || p < 0 || p > 10) {
            return NONE;
        }
        findPurrs();
        tellFraction(waysToHold(arch, p), tensFor(Integer.bitCount(now.catsIn(arch))));
        return 0;
    }

    public int stands(int p) {
        if (p < 0 || p > 10) {
            return NONE;
        }
        findPurrs();
        long together = 1;
        for (int a = 0; a < now.arches; a++) {
            together *= waysToHold(a, p);
        }
        tellFraction(together, tensFor(now.cats));
        return 0;
    }

    /** Of 10 for each cat in the arch, all multiplied: how many in which it holds. */
    private long waysToHold(int arch, int p) {
        for (int h = 0; h <= MOST_HOLD; h++) {
            ways[h] = h == 0 ? 1 : 0;
        }
        for (int c = 0; c < now.cats; c++) {
            if (now.place[c] == arch) {
                addToWays(purrs[c], p);
            }
        }
        long held = 0;
        for (int h = now.load[arch]; h <= MOST_HOLD; h++) {
            held += ways[h];
        }
        return held;
    }

    /** From the highest down, so that nothing is carried up twice. */
    private void addToWays(int purr, int p) {
        for (int h = MOST_HOLD; h >= 0; h--) {
            long was = ways[h];
            ways[h] = was * p;
            if (h + purr <= MOST_HOLD) {
                ways[h + purr] += was * (10 - p);
            }
        }
    }

    private static long tensFor(int cats) {
        long tens = 1;
        for (int c = 0; c < cats; c++) {
            tens *= 10;
        }
        return tens;
    }

    private void tellFraction(long upper, long lower) {
        long a = upper;
        long b = lower;
        for (int i = 0; i < MOST_STEPS_OF_DIVISION && a > 0; i++) {
            long rest = b % a;
            b = a;
            a = rest;
        }
        if (b > 0) {
            told.anew().add(upper / b).add(lower / b);
        }
    }

    public int litters(int n) {
        if (n < 0 || n > MOST_LITTER) {
            return NONE;
        }
        for (int heap = 0; heap <= n; heap++) {
            nimbers[heap] = nimberOf(heap);
        }
        told.anew();
        for (int lesser = 1; 2 * lesser < n; lesser++) {
            if (nimbers[lesser] == nimbers[n - lesser]) {
                told.add(lesser);
                return 1;
            }
        }
        return 0;
    }

    /** The least number that no parting of the heap comes to, by those of all lesser heaps. */
    private int nimberOf(int heap) {
        long seen = 0;
        for (int lesser = 1; 2 * lesser < heap; lesser++) {
            seen |= 1L << (nimbers[lesser] ^ nimbers[heap - lesser]);
        }
        for (int least = 0; least < MOST_LITTER; least++) {
            if ((seen >> least & 1) == 0) {
                return least;
            }
        }
        return MOST_LITTER;
    }

    // ---- rests, rules, years

    public int rests(int v) {
        if (v < 0 || v > 18) {
            return NONE;
        }
        int pairs = 0;
        told.anew();
        for (int x = 0; x <= HIGHEST; x++) {
            for (int y = 0; y <= HIGHEST; y++) {
                if (staysAt(x, y, v) && staysAt(y, x, v)) {
                    pairs++;
                    if (pairs == 1) {
                        told.add(x).add(y);
                    }
                }
            }
        }
        return pairs;
    }

    private static boolean staysAt(int own, int others, int v) {
        for (int x = 0; x <= HIGHEST; x++) {
            if (worthOf(x, others, v) > worthOf(own, others, v)) {
                return false;
            }
        }
        return true;
    }

    private static int worthOf(int own, int others, int v) {
        return 3 * own + (own + others <= v ? 20 : 0) - (own > others ? 4 : 0);
    }

    public int law() {
        int fault = readSpare();
        if (fault != NONE) {
            return LAW_FAULT - fault;
        }
        int as = sagsIn(LAW_HOURS);
        trial.become(now);
        trial.passHours(spare, LAW_HOURS);
        int by = trial.allSags();
        told.anew().add(by).add(as);
        for (int a = 0; a < now.arches; a++) {
            told.add(now.holdOf(spare, a));
        }
        return by - as;
    }

    public int years(int seed, int n) {
        if (n < 1 || n > 60) {
            return NONE;
        }
        trial.become(now);
        draws.last = seed;
        int dropped = 0;
        for (int i = 0; i < n; i++) {
            dropped += drawnAct();
        }
        told.anew().add(dropped).add(trial.store);
        return trial.allSags();
    }

    private int drawnAct() {
        int tells = draws.below(4);
        if (tells < 2) {
            return trial.passHour(ruling);
        }
        if (trial.cats > 0) {
            int cat = draws.below(trial.cats);
            if (tells == 2) {
                trial.feed(cat, 1 + draws.below(3));
            } else {
                trial.sadden(cat, 1 + draws.below(5));
            }
        }
        return 0;
    }

    // ---- kept

    public boolean keep(int i) {
        if (i < 0 || i >= MOST_KEPT) {
            return false;
        }
        if (kept[i] == null) {
            kept[i] = new Viaduct();
        }
        kept[i].become(now);
        return true;
    }

    public boolean again(int i) {
        if (i < 0 || i >= MOST_KEPT) {
            return false;
        }
        Viaduct was = kept[i];
        if (was == null || was.arches != now.arches || was.cats != now.cats) {
            return false;
        }
        now.become(was);
        past.size = 0;
        return true;
    }

    public int count(int what) {
        switch (what) {
            case 0:
                return now.arches;
            case 1:
                return now.cats;
            case 2:
                return now.hour;
            case 3:
                return now.store;
            case 4:
                return now.drops;
            case 5:
                return now.allSags();
            case 6:
                return now.allLoads();
            case 7:
                return now.allJoy();
            case 8:
                return now.allHold(ruling);
            case 9:
                return feltNotes.size;
            case 10:
                return heardNotes.size;
            case 11:
                return past.size;
            case 12:
                return told.size;
            case 13:
                return text.length;
            default:
                return NONE;
        }
    }

    public long row(int i) throws NoSuchElementException {
        if (i < 0 || i >= told.size || i >= LONGEST_ROW) {
            throw new NoSuchElementException();
        }
        return told.numbers[i];
    }

    /** THE TEXT. Its faults: where the first sign is that can't stand there, or NONE. */
    private static final class Text {
        final char[] signs = new char[MOST_SIGNS];
        int length;

        int addFour(int v) {
            if (length + 4 > MOST_SIGNS) {
                return NONE;
            }
            for (int shift = 24; shift >= 0; shift -= 8) {
                signs[length] = (char) (v >>> shift & 255);
                length++;
            }
            return length;
        }

        int at(int p) {
            return p >= 0 && p < length && p < MOST_SIGNS ? signs[p] : NONE;
        }

        int digit(int p) {
            int sign = at(p);
            return sign >= '0' && sign <= '9' ? sign - '0' : NONE;
        }

        /** Each line has so many digits, the last of them below a bound; one line more needs room. */
        int faultInLines(int digits, int mostLines, int room, int lastBelow) {
            int limit = mostLines * (digits + 1) - 1;
            int line = 0;
            int within = 0;
            for (int p = 0; p < length; p++) {
                boolean stands = within == digits ? at(p) == ';' : digit(p) != NONE;
                stands = stands && (within != digits - 1 || digit(p) < lastBelow);
                if (p == limit || !stands || line >= room) {
                    return p;
                }
                within++;
                if (within > digits) {
                    within = 0;
                    line++;
                }
            }
            return length == 0 || within == digits ? NONE : length;
        }

        int linesOf(int digits) {
            return (length + 1) / (digits + 1);
        }

        int faultInNight() {
            int kind = 0;
            int due = 0;
            for (int p = 0; p < length; p++) {
                if (p == MOST_NIGHT) {
                    return p;
                }
                if (due == 0) {
                    kind = at(p);
                    due = digitsOfAct(kind);
                    if (due == 0) {
                        return p;
                    }
                } else {
                    boolean howMuch = due == 1 && (kind == 'f' || kind == 'g');
                    if (digit(p) < (howMuch ? 1 : 0)) {
                        return p;
                    }
                    due--;
                }
            }
            return due == 0 ? NONE : length;
        }

        int faultInTrains() {
            for (int p = 0; p < length; p++) {
                if (p == MOST_TRAINS || digit(p) == NONE) {
                    return p;
                }
            }
            return length == 0 ? 0 : NONE;
        }
    }

    /** The ROW. */
    private static final class Row {
        final long[] numbers = new long[LONGEST_ROW];
        int size;

        Row anew() {
            size = 0;
            return this;
        }

        Row add(long number) {
            if (size < LONGEST_ROW) {
                numbers[size] = number;
                size++;
            }
            return this;
        }
    }

    /** Pairs of numbers that were felt or heard, up to a most of its own that LONGEST_NOTES has room for. */
    private static final class Notes {
        final int[] first = new int[LONGEST_NOTES];
        final int[] second = new int[LONGEST_NOTES];
        final int most;
        int size;

        Notes(int ownMost) {
            most = ownMost;
        }

        int add(int one, int other) {
            if (size >= most || size >= LONGEST_NOTES) {
                return NONE;
            }
            first[size] = one;
            second[size] = other;
            size++;
            return size;
        }

        int empty() {
            int were = size;
            size = 0;
            return were;
        }
    }

    private static final class Draws {
        int last;

        int below(int n) {
            last = last * 1103515245 + 12345;
            return n > 0 ? (last >>> 16) % n : 0;
        }
    }

    /** What undo() brings back, the latest ones, in a ring so that none is made anew. */
    private static final class Past {
        final Viaduct[] ring = new Viaduct[MOST_UNDONE];
        int next;
        int size;

        void add(Viaduct was) {
            if (ring[next] == null) {
                ring[next] = new Viaduct();
            }
            ring[next].become(was);
            next = (next + 1) % MOST_UNDONE;
            size = Math.min(size + 1, MOST_UNDONE);
        }

        boolean bringBack(Viaduct now) {
            int latest = (next + MOST_UNDONE - 1) % MOST_UNDONE;
            if (size == 0 || ring[latest] == null) {
                return false;
            }
            now.become(ring[latest]);
            next = latest;
            size--;
            return true;
        }
    }

    /** All of ARCHES and CATS, STORE, HOUR and DROPS. */
    private static final class Viaduct {
        final int[] load = new int[MOST_ARCHES];
        final int[] sag = new int[MOST_ARCHES];
        final int[] joy = new int[MOST_CATS];
        final int[] bowl = new int[MOST_CATS];
        final int[] grief = new int[MOST_CATS];
        final int[] place = new int[MOST_CATS];
        int arches;
        int cats;
        int store = FIRST_STORE;
        int hour;
        int drops;

        void become(Viaduct other) {
            arches = other.arches;
            cats = other.cats;
            store = other.store;
            hour = other.hour;
            drops = other.drops;
            System.arraycopy(other.load, 0, load, 0, MOST_ARCHES);
            System.arraycopy(other.sag, 0, sag, 0, MOST_ARCHES);
            System.arraycopy(other.joy, 0, joy, 0, MOST_CATS);
            System.arraycopy(other.bowl, 0, bowl, 0, MOST_CATS);
            System.arraycopy(other.grief, 0, grief, 0, MOST_CATS);
            System.arraycopy(other.place, 0, place, 0, MOST_CATS);
        }

        void addArch(int ownLoad) {
            if (arches < MOST_ARCHES) {
                load[arches] = ownLoad;
                arches++;
            }
        }

        void addCat(int ownJoy, int ownBowl, int ownPlace) {
            if (cats < MOST_CATS) {
                joy[cats] = ownJoy;
                bowl[cats] = ownBowl;
                place[cats] = ownPlace;
                cats++;
            }
        }

        boolean hasArch(int arch) {
            return arch >= 0 && arch < arches;
        }

        boolean hasCat(int cat) {
            return cat >= 0 && cat < cats;
        }

        int feed(int cat, int n) {
            if (!hasCat(cat) || n < 1 || n > HIGHEST) {
                return NONE;
            }
            if (store < n) {
                return CANNOT;
            }
            if (bowl[cat] + n > HIGHEST) {
                return CANNOT_EITHER;
            }
            store -= n;
            bowl[cat] += n;
            return bowl[cat];
        }

        int pet(int cat) {
            if (!hasCat(cat)) {
                return NONE;
            }
            if (joy[cat] == HIGHEST) {
                return CANNOT;
            }
            joy[cat]++;
            return joy[cat];
        }

        int sadden(int cat, int n) {
            if (!hasCat(cat) || n < 1 || n > HIGHEST) {
                return NONE;
            }
            grief[cat] = Math.min(HIGHEST, grief[cat] + n);
            return grief[cat];
        }

        int seat(int cat, int arch) {
            if (!hasCat(cat) || !hasArch(arch)) {
                return NONE;
            }
            int far = Math.abs(arch - place[cat]);
            place[cat] = arch;
            return far == 0 ? CANNOT : far;
        }

        int burden(int arch, int v) {
            if (!hasArch(arch) || v < 0 || v > HIGHEST) {
                return NONE;
            }
            int was = load[arch];
            load[arch] = v;
            return was == v ? CANNOT : 10 + was;
        }

        int passHours(Rule rule, int n) {
            int dropped = 0;
            for (int h = 0; h < n; h++) {
                dropped += passHour(rule);
            }
            return dropped;
        }

        /** How many dropped. One arch after another does, since no arch's HOLD hangs on another's SAG. */
        int passHour(Rule rule) {
            int dropped = 0;
            for (int a = 0; a < arches; a++) {
                int lack = load[a] - holdBy(rule, a, catsIn(a));
                if (lack > 0 && sag[a] == HIGHEST) {
                    dropped++;
                } else if (lack > 0) {
                    sag[a]++;
                } else if (lack < 0 && sag[a] > 0) {
                    sag[a]--;
                }
            }
            for (int c = 0; c < cats; c++) {
                if (bowl[c] > 0) {
                    bowl[c]--;
                } else if (joy[c] > 0) {
                    joy[c]--;
                }
                if (grief[c] > 0) {
                    grief[c]--;
                }
            }
            hour++;
            drops = Math.min(MOST_DROPS, drops + dropped);
            return dropped;
        }

        int catsIn(int arch) {
            int who = 0;
            for (int c = 0; c < cats; c++) {
                who |= place[c] == arch ? 1 << c : 0;
            }
            return who;
        }

        int purrOf(Rule rule, int cat) {
            return rule.purr(this, cat, place[cat], Integer.bitCount(catsIn(place[cat])) - 1);
        }

        int holdOf(Rule rule, int arch) {
            return holdBy(rule, arch, catsIn(arch));
        }

        /** HOLD of an arch, were these cats in it and nobody else. */
        int holdBy(Rule rule, int arch, int who) {
            int others = Integer.bitCount(who) - 1;
            int hold = 0;
            for (int c = 0; c < cats; c++) {
                if ((who >> c & 1) == 1) {
                    hold += rule.purr(this, c, arch, others);
                }
            }
            return hold;
        }

        int allHold(Rule rule) {
            int hold = 0;
            for (int a = 0; a < arches; a++) {
                hold += holdOf(rule, a);
            }
            return hold;
        }

        int heldArches(Rule rule) {
            int held = 0;
            for (int a = 0; a < arches; a++) {
                held |= holdOf(rule, a) >= load[a] ? 1 << a : 0;
            }
            return held;
        }

        int loadedArches() {
            int loaded = 0;
            for (int a = 0; a < arches; a++) {
                loaded |= load[a] > 0 ? 1 << a : 0;
            }
            return loaded;
        }

        int lowestArches() {
            int lowest = 0;
            for (int a = 0; a < arches; a++) {
                lowest |= sag[a] == HIGHEST ? 1 << a : 0;
            }
            return lowest;
        }

        /** The farthest arch with SAG above 0 on this side (1 or -1), or the arch itself. */
        int farthestSagging(int arch, int side) {
            int farthest = arch;
            for (int a = 0; a < arches; a++) {
                if (sag[a] > 0 && (a - farthest) * side > 0) {
                    farthest = a;
                }
            }
            return farthest;
        }

        /** These cats, and all that sit in their arches and in those beside. */
        int spreadFrom(int who) {
            int next = who;
            for (int c = 0; c < cats; c++) {
                for (int d = 0; d < cats; d++) {
                    if ((who >> c & 1) == 1 && Math.abs(place[c] - place[d]) <= 1) {
                        next |= 1 << d;
                    }
                }
            }
            return next;
        }

        int allSags() {
            return sumOf(sag, arches);
        }

        int allLoads() {
            return sumOf(load, arches);
        }

        int allJoy() {
            return sumOf(joy, cats);
        }

        private static int sumOf(int[] numbers, int n) {
            int sum = 0;
            for (int i = 0; i < n && i < numbers.length; i++) {
                sum += numbers[i];
            }
            return sum;
        }

        /** What a letter of a rule tells. */
        int thing(int letter, int cat, int arch, int others) {
            if (!hasCat(cat) || !hasArch(arch)) {
                return 0;
            }
            switch (letter) {
                case 'j':
                    return joy[cat];
                case 'b':
                    return bowl[cat];
                case 'g':
                    return grief[cat];
                case 'k':
                    return others;
                case 'l':
                    return load[arch];
                case 's':
                    return sag[arch];
                default:
                    return hour % 7;
            }
        }
    }

    /** A rule as steps, things ahead of what joins them, so that it is read once and told often. */
    private static final class Rule {
        /** Above all signs, so that no text can hold it. */
        private static final int NEGATE = 256;
        private static final int MOST_OPEN = 4;
        private static final int MOST_DIGITS = 3;

        /** A number is a step as it is; a letter or what joins is the sign's number below 0. */
        final int[] steps = new int[MOST_RULE];
        /** While it is read: what still waits for things behind it. While it is told: values. */
        final int[] stack = new int[MOST_RULE];
        int size;
        int top;
        int open;
        /** Bit d: a comparison stands already in the brackets at depth d. */
        int compared;
        int digits;
        boolean wantsThing;

        Rule() {
            bePlain();
        }

        /** j-g */
        private void bePlain() {
            addStep(-'j');
            addStep(-'g');
            addStep(-'-');
        }

        int read(Text text) {
            start();
            if (text.length == 0) {
                bePlain();
                return NONE;
            }
            for (int p = 0; p < text.length; p++) {
                if (p == MOST_RULE || !takes(text.at(p))) {
                    return p;
                }
            }
            if (wantsThing || open > 0) {
                return text.length;
            }
            settle(1);
            return NONE;
        }

        private void start() {
            size = 0;
            top = 0;
            open = 0;
            compared = 0;
            digits = 0;
            wantsThing = true;
        }

        private boolean takes(int sign) {
            if (sign >= '0' && sign <= '9') {
                return takesDigit(sign - '0');
            }
            digits = 0;
            return wantsThing ? takesThing(sign) : takesBehindThing(sign);
        }

        private boolean takesDigit(int digit) {
            if (wantsThing) {
                addStep(digit);
                digits = 1;
                wantsThing = false;
                return true;
            }
            if (digits == 0 || digits == MOST_DIGITS || size < 1) {
                return false;
            }
            steps[size - 1] = 10 * steps[size - 1] + digit;
            digits++;
            return true;
        }

        private boolean takesThing(int sign) {
            switch (sign) {
                case '-':
                    push(NEGATE);
                    return true;
                case '(':
                    if (open == MOST_OPEN) {
                        return false;
                    }
                    open++;
                    compared &= ~(1 << open);
                    push('(');
                    return true;
                case 'j':
                case 'b':
                case 'g':
                case 'k':
                case 'l':
                case 's':
                case 'n':
                    addStep(-sign);
                    wantsThing = false;
                    return true;
                default:
                    return false;
            }
        }

        private boolean takesBehindThing(int sign) {
            if (sign == ')' && open > 0) {
                settle(1);
                pop();
                open--;
                return true;
            }
            int rank = rankOf(sign);
            if (rank == 0 || rank == 1 && (compared >> open & 1) == 1) {
                return false;
            }
            compared |= rank == 1 ? 1 << open : 0;
            settle(rank);
            push(sign);
            wantsThing = true;
            return true;
        }

        /** What waits and binds as strongly or more becomes steps, back to an open bracket. */
        private void settle(int rank) {
            for (int i = top - 1; i >= 0 && i < MOST_RULE && rankOf(stack[i]) >= rank; i--) {
                addStep(-pop());
            }
        }

        private static int rankOf(int sign) {
            switch (sign) {
                case '<':
                case '>':
                case '=':
                    return 1;
                case '+':
                case '-':
                    return 2;
                case '*':
                case '/':
                    return 3;
                case NEGATE:
                    return 4;
                default:
                    return 0;
            }
        }

        private void addStep(int step) {
            if (size < MOST_RULE) {
                steps[size] = step;
                size++;
            }
        }

        private void push(int value) {
            if (top < MOST_RULE) {
                stack[top] = value;
                top++;
            }
        }

        private int pop() {
            if (top < 1 || top > MOST_RULE) {
                return 0;
            }
            top--;
            return stack[top];
        }

        int purr(Viaduct viaduct, int cat, int arch, int others) {
            top = 0;
            for (int i = 0; i < size && i < MOST_RULE; i++) {
                int step = steps[i];
                if (step >= 0) {
                    push(step);
                } else if (step == -NEGATE) {
                    push(-pop());
                } else if (rankOf(-step) > 0) {
                    int second = pop();
                    push(joined(-step, pop(), second));
                } else {
                    push(viaduct.thing(-step, cat, arch, others));
                }
            }
            return asDigit(pop());
        }

        private static int joined(int sign, int first, int second) {
            switch (sign) {
                case '<':
                    return first < second ? 1 : 0;
                case '>':
                    return first > second ? 1 : 0;
                case '=':
                    return first == second ? 1 : 0;
                case '+':
                    return first + second;
                case '-':
                    return first - second;
                case '*':
                    return first * second;
                default:
                    return second == 0 ? 0 : first / second;
            }
        }
    }
}
