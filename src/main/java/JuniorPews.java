import java.util.Arrays;
import java.util.NoSuchElementException;

/** A chapel in which who comes puts out the first one in the front pew who minds it, and so on to the last pew. */
public final class JuniorPews {
    public static final int NONE = -1;

    /** The most people; no pew can hold more and there can't be more pews than people. */
    private static final int MOST = 12;
    private static final int TAPE = 700;
    private static final int OLDEST = 29;
    private static final int RAIN_AGE = 15;
    private static final int FAR = 100;
    private static final int FARTHEST = 200;
    private static final int LAST_SUNDAY = 9999;
    private static final int MOST_ACTS = 40;
    private static final int MOST_SEEN = 8;
    private static final int SEEN_SUNDAYS = 20;
    private static final int LOOK_SUNDAYS = 4;

    /* Where each part of what can be undone begins in a row that holds it all: so it is kept by one copy. */
    private static final int SPOT = 0;
    private static final int AGE = 12;
    private static final int MOVED = 24;
    private static final int TOTAL = 36;
    private static final int AWAY = 48;
    private static final int BARRED = 60;
    private static final int SUNDAY = 72;
    private static final int HELD = 73;

    private static final int ARRIVES = 0;
    private static final int SULKS = 1;
    private static final int MINDS = 2;
    private static final int RULES = 3;

    /* The values of a rule, by the register that holds them. */
    private static final int AGE_VALUE = 0;
    private static final int PEW_VALUE = 1;
    private static final int SEAT_VALUE = 2;
    private static final int MOVED_VALUE = 3;
    private static final int AWAY_VALUE = 4;
    private static final int SUNDAY_VALUE = 5;
    private static final int THEIRS_VALUE = 6;
    private static final int VALUES = 7;

    private static final int OP_OR = 0;
    private static final int OP_AND = 1;
    private static final int OP_NOT = 2;
    private static final int OP_LESS = 3;
    private static final int OP_SAME = 4;
    private static final int OP_PLUS = 5;
    private static final int OP_MINUS = 6;
    private static final int OP_TIMES = 7;
    private static final int OP_OVER = 8;

    private static final int REFUSED_TEXTS = 0;
    private static final int REFUSED_ACTS = 1;
    private static final int REFUSED_SEEN = 2;
    private static final int REFUSED_KINDS = 3;

    private final int[] tape = new int[TAPE];
    private int taped;
    private int faultPlace = NONE;
    private final int[] refused = new int[REFUSED_KINDS];
    private final Rules rules = new Rules();
    private final Reader reader = new Reader(tape);
    private final Pews now = new Pews(rules);
    private final Pews trial = new Pews(rules);
    private final Future future = new Future(now, new Pews(rules));
    private final Acts acts = new Acts();
    private final Seen seen = new Seen();
    private final Guesses guesses = new Guesses(now, trial, seen);
    private final Keepsake keepsake = new Keepsake();
    private final Couples pairs = new Couples();
    private final LongestRow longestRow = new LongestRow();
    /** What both gain by each of the four couples of choices of a game. */
    private final int[] gains = new int[8];

    public JuniorPews() {
    }

    public int feed(int a, int b, int c, int d, int e) {
        if (taped + 20 > TAPE) {
            return NONE;
        }
        tapeNumber(a);
        tapeNumber(b);
        tapeNumber(c);
        tapeNumber(d);
        tapeNumber(e);
        return taped;
    }

    private void tapeNumber(int number) {
        for (int shift = 24; shift >= 0 && taped < TAPE; shift -= 8) {
            tape[taped] = number >>> shift & 255;
            taped++;
        }
    }

    public int chapel(int n) throws IllegalArgumentException {
        if (n < 0 || n > taped) {
            throw new IllegalArgumentException("the tape has not so many bytes");
        }
        taped = 0;
        int fault = reader.read(n);
        if (fault != 0) {
            faultPlace = reader.faultPlace();
            refused[REFUSED_TEXTS]++;
            return fault;
        }
        faultPlace = NONE;
        rules.copyFrom(reader.draft);
        now.beginAnew();
        acts.kept = 0;
        seen.many = 0;
        keepsake.is = false;
        forgetWhatFollows();
        return 0;
    }

    /** Every change of what is so now comes through here: what was worked out from it is void. */
    private void forgetWhatFollows() {
        future.known = NONE;
        guesses.made = false;
    }

    public int fault() {
        return faultPlace;
    }

    public int count(int what) throws NoSuchElementException {
        switch (what) {
            case 0: return rules.people;
            case 1: return rules.seats;
            case 2: return now.held[SUNDAY];
            case 3: return now.pewsWithSitters();
            case 4: return now.sitterBits();
            case 5: return comerBits();
            case 6: return now.sumOf(MOVED);
            case 7: return now.sumOf(TOTAL);
            case 8: return inOrderBits();
            case 9: return acts.kept;
            case 10: return seen.many;
            case 11: return taped;
            case 12: return refused[REFUSED_TEXTS];
            case 13: return refused[REFUSED_ACTS];
            case 14: return refused[REFUSED_SEEN];
            default: throw new NoSuchElementException("no such what");
        }
    }

    private int comerBits() {
        now.lineUp(false);
        int bits = 0;
        for (int i = 0; i < now.lined; i++) {
            bits |= 1 << now.line[i];
        }
        return bits;
    }

    private int inOrderBits() {
        int bits = 0;
        for (int pew = 0; pew < MOST; pew++) {
            if (now.filled[pew] > 0 && now.isInOrder(pew)) {
                bits |= 1 << pew;
            }
        }
        return bits;
    }

    public int person(int person, int what) throws NoSuchElementException {
        needPerson(person);
        switch (what) {
            case 0: return pewOf(now.held[SPOT + person]);
            case 1: return seatOf(now.held[SPOT + person]);
            case 2: return now.held[AGE + person];
            case 3: return now.held[MOVED + person];
            case 4: return now.held[TOTAL + person];
            case 5: return now.held[AWAY + person];
            case 6: return now.held[BARRED + person];
            case 7:
                now.lineUp(false);
                return now.placeInLine(person);
            case 8:
                pairs.pairAll(now);
                return pairs.mate[person];
            default: throw new NoSuchElementException("no such what");
        }
    }

    public int pew(int pew, int what) throws NoSuchElementException {
        if (pew < 0 || pew >= MOST || now.filled[pew] == 0) {
            throw new NoSuchElementException("no such pew");
        }
        switch (what) {
            case 0: return now.filled[pew];
            case 1: return now.bitsOfPew(pew);
            case 2: return now.row[pew * MOST];
            case 3: return now.row[pew * MOST + now.filled[pew] - 1];
            case 4: return now.agesOfPew(pew);
            default: throw new NoSuchElementException("no such what");
        }
    }

    public int sundays(int many) {
        if (many < 1 || many > 20 || now.held[SUNDAY] + many > LAST_SUNDAY) {
            return refuse(REFUSED_ACTS);
        }
        beginAct();
        for (int i = 0; i < many; i++) {
            now.goBy(false);
        }
        return now.held[SUNDAY];
    }

    private void beginAct() {
        acts.keep(now.held);
        forgetWhatFollows();
    }

    private int refuse(int kind) {
        refused[kind]++;
        return NONE;
    }

    public int come(int person) throws NoSuchElementException {
        needPerson(person);
        if (now.held[SPOT + person] != NONE) {
            return refuse(REFUSED_ACTS);
        }
        beginAct();
        now.sitDown(person);
        return Integer.bitCount(now.putOutBits);
    }

    public int leave(int person) throws NoSuchElementException {
        needPerson(person);
        int spot = now.held[SPOT + person];
        if (spot == NONE) {
            return refuse(REFUSED_ACTS);
        }
        beginAct();
        now.getUp(person);
        return pewOf(spot);
    }

    public boolean swap(int person, int other) throws NoSuchElementException {
        needPerson(person);
        needPerson(other);
        int spot = now.held[SPOT + person];
        int otherSpot = now.held[SPOT + other];
        if (person == other || spot == NONE || otherSpot == NONE) {
            refuse(REFUSED_ACTS);
            return false;
        }
        beginAct();
        now.place(person, otherSpot);
        now.place(other, spot);
        return true;
    }

    public int lie(int person, int age) throws NoSuchElementException {
        needPerson(person);
        return change(AGE + person, age, OLDEST);
    }

    public int bar(int person, int sundays) throws NoSuchElementException {
        needPerson(person);
        return change(BARRED + person, sundays, 9);
    }

    /** An act that puts one number in place of another one: answers the number as it was. */
    private int change(int at, int number, int highest) {
        int before = now.held[at];
        if (number < 0 || number > highest || number == before) {
            return refuse(REFUSED_ACTS);
        }
        beginAct();
        now.held[at] = number;
        return before;
    }

    public int undo() {
        if (!acts.takeBack(now.held)) {
            return NONE;
        }
        now.seatAllByHeld();
        forgetWhatFollows();
        return acts.kept;
    }

    public int then(int person, int sundays, int what) throws NoSuchElementException, IllegalArgumentException {
        needPerson(person);
        needWhat(what, 3);
        needWithin(sundays, 0, FAR);
        future.reach(sundays);
        switch (what) {
            case 0: return pewOf(future.spots[sundays * MOST + person]);
            case 1: return seatOf(future.spots[sundays * MOST + person]);
            case 2: return future.moves[sundays * MOST + person];
            default: return now.held[TOTAL + person] + future.movesOf(person, sundays);
        }
    }

    public int who(int pew, int seat, int sundays) throws IllegalArgumentException {
        needWithin(pew, 0, MOST - 1);
        needWithin(seat, 0, MOST - 1);
        needWithin(sundays, 0, FAR);
        future.reach(sundays);
        for (int p = 0; p < rules.people; p++) {
            if (future.spots[sundays * MOST + p] == pew * MOST + seat) {
                return p;
            }
        }
        return NONE;
    }

    public int later(int sundays, int what) throws NoSuchElementException, IllegalArgumentException {
        needWhat(what, 3);
        needWithin(sundays, 0, FAR);
        future.reach(sundays);
        switch (what) {
            case 0: return future.pewsAt(sundays);
            case 1: return future.sitterBitsAt(sundays);
            case 2: return future.movesAt(sundays);
            default: return future.lastSitterAt(sundays);
        }
    }

    public int size(int pew, int sundays) throws IllegalArgumentException {
        needWithin(pew, 0, MOST - 1);
        needWithin(sundays, 0, FAR);
        future.reach(sundays);
        int sitters = 0;
        for (int p = 0; p < rules.people; p++) {
            if (future.pewAt(sundays, p) == pew) {
                sitters++;
            }
        }
        return sitters;
    }

    public int front(int person, int sundays) throws NoSuchElementException, IllegalArgumentException {
        needPerson(person);
        needWithin(sundays, 1, FAR);
        future.reach(sundays);
        int times = 0;
        for (int k = 1; k <= sundays; k++) {
            if (future.pewAt(k, person) == 0) {
                times++;
            }
        }
        return times;
    }

    public int first(int person) throws NoSuchElementException {
        needPerson(person);
        for (int k = 0; k <= FAR; k++) {
            future.reach(k);
            if (future.pewAt(k, person) == 0) {
                return k;
            }
        }
        return NONE;
    }

    public int beside(int person, int other) throws NoSuchElementException {
        needPerson(person);
        needPerson(other);
        for (int k = 0; k <= FAR; k++) {
            future.reach(k);
            if (future.areBeside(k, person, other)) {
                return k;
            }
        }
        return NONE;
    }

    public int together(int person, int other, int sundays) throws NoSuchElementException, IllegalArgumentException {
        needPerson(person);
        needPerson(other);
        needWithin(sundays, 1, FAR);
        future.reach(sundays);
        int times = 0;
        for (int k = 1; k <= sundays; k++) {
            int pew = future.pewAt(k, person);
            if (pew != NONE && pew == future.pewAt(k, other)) {
                times++;
            }
        }
        return times;
    }

    public int asNow() {
        for (int k = 1; k <= FARTHEST; k++) {
            future.reach(k);
            if (future.isAsNow(k)) {
                return k;
            }
        }
        return NONE;
    }

    public int neighbours(int person, int sundays) throws NoSuchElementException, IllegalArgumentException {
        needPerson(person);
        needWithin(sundays, 0, FAR);
        future.reach(sundays);
        int bits = 0;
        for (int k = 0; k <= sundays; k++) {
            for (int p = 0; p < rules.people; p++) {
                if (future.areBeside(k, person, p)) {
                    bits |= 1 << p;
                }
            }
        }
        return bits;
    }

    public int more(int person, int what) throws NoSuchElementException {
        needPerson(person);
        needWhat(what, 2);
        if (now.held[SPOT + person] != NONE) {
            return NONE;
        }
        trial.copyFrom(now);
        int pew = trial.sitDown(person);
        switch (what) {
            case 0: return Integer.bitCount(trial.putOutBits);
            case 1: return trial.putOutBits;
            default: return pew;
        }
    }

    public int order(int i) throws IllegalArgumentException {
        needWithin(i, 0, MOST - 1);
        now.lineUp(false);
        return i < now.lined ? now.line[i] : NONE;
    }

    public int longest(int i) throws NoSuchElementException {
        now.lineUp(false);
        longestRow.find(now);
        if (i == NONE) {
            return longestRow.many;
        }
        if (i < 0 || i >= longestRow.many) {
            throw new NoSuchElementException("the row is not so long");
        }
        return longestRow.row[i];
    }

    public int toCome(int person, int what) throws NoSuchElementException {
        needPerson(person);
        needWhat(what, 1);
        now.lineUp(false);
        if (now.placeInLine(person) == NONE) {
            return NONE;
        }
        int bestPlace = NONE;
        int bestPew = MOST;
        for (int place = 0; place < now.lined; place++) {
            trial.copyFrom(now);
            trial.lineUp(false);
            trial.standAt(person, place);
            trial.holdService();
            int pew = pewOf(trial.held[SPOT + person]);
            if (pew < bestPew) {
                bestPew = pew;
                bestPlace = place;
            }
        }
        return what == 0 ? bestPlace : bestPew;
    }

    public int whose(int person) throws NoSuchElementException {
        needPerson(person);
        holdNextWithout(NONE);
        int bestPew = pewOf(trial.held[SPOT + person]);
        int best = NONE;
        if (bestPew == NONE) {
            return NONE;
        }
        for (int p = 0; p < rules.people; p++) {
            if (p != person && holdNextWithout(p)) {
                int pew = pewOf(trial.held[SPOT + person]);
                if (pew < bestPew) {
                    bestPew = pew;
                    best = p;
                }
            }
        }
        return best;
    }

    /** The next Sunday, tried with one left out: answers whether that one would have come. */
    private boolean holdNextWithout(int person) {
        trial.copyFrom(now);
        trial.lineUp(false);
        boolean wouldCome = trial.leaveOut(person);
        trial.holdService();
        return wouldCome;
    }

    public int couples(int what) throws NoSuchElementException {
        needWhat(what, 1);
        pairs.pairAll(now);
        return what == 0 ? pairs.many : pairs.apart;
    }

    public int see(int person, int sundays, int pew) throws NoSuchElementException {
        needPerson(person);
        if (seen.many >= MOST_SEEN || sundays < 0 || sundays > SEEN_SUNDAYS || pew < 0 || pew >= MOST) {
            return refuse(REFUSED_SEEN);
        }
        seen.note(person, sundays, pew);
        guesses.made = false;
        return seen.many;
    }

    public void forget() {
        seen.many = 0;
        guesses.made = false;
    }

    public int old(int what) throws NoSuchElementException {
        needWhat(what, 2);
        if (what == 2) {
            return guesses.isSoWith(NONE, NONE) ? 1 : 0;
        }
        guesses.make();
        return what == 0 ? guesses.many() : guesses.foremost();
    }

    public int look(int what) throws NoSuchElementException {
        needWhat(what, 1);
        guesses.make();
        guesses.lookForWidest();
        return what == 0 ? guesses.widest : guesses.width;
    }

    public int rain(int person, int sundays, int tenths) throws NoSuchElementException, IllegalArgumentException {
        needPerson(person);
        needWithin(sundays, 1, 5);
        needWithin(tenths, 0, 10);
        int likely = 0;
        for (int wet = 0; wet < 1 << sundays; wet++) {
            int weight = 1;
            for (int k = 0; k < sundays; k++) {
                weight *= (wet >> k & 1) == 1 ? tenths : 10 - tenths;
            }
            if (weight > 0 && sitsInFrontAfter(person, sundays, wet)) {
                likely += weight;
            }
        }
        return likely;
    }

    private boolean sitsInFrontAfter(int person, int sundays, int wet) {
        trial.copyFrom(now);
        for (int k = 0; k < sundays; k++) {
            trial.goBy((wet >> k & 1) == 1);
        }
        return pewOf(trial.held[SPOT + person]) == 0;
    }

    public int game(int person, int other, int what) throws NoSuchElementException, IllegalArgumentException {
        needPerson(person);
        needPerson(other);
        needWhat(what, 1);
        if (person == other) {
            throw new IllegalArgumentException("both are one");
        }
        for (int choices = 0; choices < 4; choices++) {
            play(person, other, choices);
        }
        int many = 0;
        int foremost = NONE;
        for (int choices = 3; choices >= 0; choices--) {
            if (rests(choices)) {
                many++;
                foremost = 10 * (choices >> 1) + (choices & 1);
            }
        }
        return what == 0 ? many : foremost;
    }

    /** Bit 1 of choices is the first one's, bit 0 the other one's. */
    private void play(int person, int other, int choices) {
        int early = choices >> 1;
        int otherEarly = choices & 1;
        trial.copyFrom(now);
        trial.lineUp(false);
        boolean isLesser = person < other;
        // the greater one goes to the head first, so that the lesser one gets ahead of it
        if ((isLesser ? otherEarly : early) == 1) {
            trial.standAt(isLesser ? other : person, 0);
        }
        if ((isLesser ? early : otherEarly) == 1) {
            trial.standAt(isLesser ? person : other, 0);
        }
        trial.holdService();
        gains[2 * choices] = gainOf(person) - early;
        gains[2 * choices + 1] = gainOf(other) - otherEarly;
    }

    private int gainOf(int person) {
        int spot = trial.held[SPOT + person];
        return spot == NONE ? 0 : MOST - pewOf(spot) - trial.held[MOVED + person];
    }

    private boolean rests(int choices) {
        return gains[2 * (choices ^ 2)] <= gains[2 * choices]
            && gains[2 * (choices ^ 1) + 1] <= gains[2 * choices + 1];
    }

    public int years(int seed, int n, int what) throws NoSuchElementException, IllegalArgumentException {
        needWhat(what, 2);
        needWithin(n, 0, FAR);
        trial.copyFrom(now);
        int drawn = seed;
        int times = 0;
        for (int k = 0; k < n; k++) {
            drawn = actByDraw(drawn);
            trial.goBy(false);
            times += trial.sumOf(MOVED);
        }
        switch (what) {
            case 0: return times;
            case 1: return trial.pewsWithSitters();
            default: return trial.bitsOfPew(0);
        }
    }

    /** What a draw does ahead of a Sunday: answers the seed behind it. */
    private int actByDraw(int seed) {
        int drawn = nextSeed(seed);
        int act = draw(drawn, 5);
        if (act > 1 || rules.people == 0) {
            return drawn;
        }
        drawn = nextSeed(drawn);
        int person = draw(drawn, rules.people);
        if (act == 0) {
            trial.held[BARRED + person] = 1;
            return drawn;
        }
        drawn = nextSeed(drawn);
        trial.held[AGE + person] = draw(drawn, OLDEST + 1);
        return drawn;
    }

    private static int nextSeed(int seed) {
        return seed * 1103515245 + 12345;
    }

    private static int draw(int seed, int n) {
        return n > 0 ? (seed >>> 16 & 32767) % n : 0;
    }

    public int ahead(int sundays, int what) throws NoSuchElementException, IllegalArgumentException {
        needWhat(what, 3);
        needWithin(sundays, what < 2 ? 0 : 1, FAR);
        future.reach(sundays);
        switch (what) {
            case 0: return restless(sundays);
            case 1: return pious(sundays);
            case 2: return unmoved(sundays);
            default: return deepest(sundays);
        }
    }

    private int restless(int sundays) {
        int most = 0;
        int best = NONE;
        for (int p = 0; p < rules.people; p++) {
            int times = future.movesOf(p, sundays);
            if (times > most) {
                most = times;
                best = p;
            }
        }
        return best;
    }

    private int pious(int sundays) {
        int most = 0;
        int best = NONE;
        for (int p = 0; p < rules.people; p++) {
            int times = 0;
            for (int k = 1; k <= sundays; k++) {
                // who comes on a Sunday sits somewhere at its end, and nobody else does
                if (future.spots[k * MOST + p] != NONE) {
                    times++;
                }
            }
            if (times > most) {
                most = times;
                best = p;
            }
        }
        return best;
    }

    private int unmoved(int sundays) {
        int times = 0;
        for (int k = 1; k <= sundays; k++) {
            if (future.movesAt(k) == 0) {
                times++;
            }
        }
        return times;
    }

    private int deepest(int sundays) {
        int most = 0;
        for (int k = 1; k <= sundays; k++) {
            most = Math.max(most, future.pewsAt(k));
        }
        return most;
    }

    public int putBy(int person, int other, int sundays) throws NoSuchElementException, IllegalArgumentException {
        needPerson(person);
        needPerson(other);
        needWithin(sundays, 0, FAR);
        trial.copyFrom(now);
        trial.watch(person, other);
        for (int k = 0; k < sundays; k++) {
            trial.goBy(false);
        }
        int times = trial.caught;
        trial.watch(NONE, NONE);
        return times;
    }

    public int forward(int person, int age, int sundays) throws NoSuchElementException, IllegalArgumentException {
        needPerson(person);
        needWithin(age, 0, OLDEST);
        needWithin(sundays, 0, FAR);
        future.reach(sundays);
        trial.copyFrom(now);
        trial.held[AGE + person] = age;
        for (int k = 0; k < sundays; k++) {
            trial.goBy(false);
        }
        return pewOr12(future.spots[sundays * MOST + person]) - pewOr12(trial.held[SPOT + person]);
    }

    public int spread(int person, int sundays) throws NoSuchElementException, IllegalArgumentException {
        needPerson(person);
        needWithin(sundays, 1, FAR);
        future.reach(sundays);
        int bits = 0;
        for (int k = 1; k <= sundays; k++) {
            int pew = future.pewAt(k, person);
            if (pew != NONE) {
                bits |= 1 << pew;
            }
        }
        return bits;
    }

    public int toLie(int person, int sundays, int what) throws NoSuchElementException, IllegalArgumentException {
        needPerson(person);
        needWhat(what, 1);
        needWithin(sundays, 1, FAR);
        int bestAge = NONE;
        int most = NONE;
        // no age can do better than on all Sundays, and of like ones the least is asked for
        for (int age = 0; age <= OLDEST && most < sundays; age++) {
            int times = frontsByAge(person, age, sundays);
            if (times > most) {
                most = times;
                bestAge = age;
            }
        }
        return what == 0 ? bestAge : most;
    }

    private int frontsByAge(int person, int age, int sundays) {
        trial.copyFrom(now);
        trial.held[AGE + person] = age;
        int times = 0;
        for (int k = 0; k < sundays; k++) {
            trial.goBy(false);
            if (pewOf(trial.held[SPOT + person]) == 0) {
                times++;
            }
        }
        return times;
    }

    public int toBar() {
        holdNextWithout(NONE);
        int fewest = trial.sumOf(MOVED);
        int best = NONE;
        for (int p = 0; p < rules.people; p++) {
            if (holdNextWithout(p) && trial.sumOf(MOVED) < fewest) {
                fewest = trial.sumOf(MOVED);
                best = p;
            }
        }
        return best;
    }

    public void image() {
        System.arraycopy(now.held, 0, keepsake.held, 0, HELD);
        keepsake.acts.copyFrom(acts);
        keepsake.seen.copyFrom(seen);
        keepsake.is = true;
    }

    public boolean restore() {
        if (!keepsake.is) {
            return false;
        }
        System.arraycopy(keepsake.held, 0, now.held, 0, HELD);
        now.seatAllByHeld();
        acts.copyFrom(keepsake.acts);
        seen.copyFrom(keepsake.seen);
        forgetWhatFollows();
        return true;
    }

    private void needPerson(int person) {
        if (person < 0 || person >= rules.people) {
            throw new NoSuchElementException("no such person");
        }
    }

    private static void needWhat(int what, int highest) {
        if (what < 0 || what > highest) {
            throw new NoSuchElementException("no such what");
        }
    }

    private static void needWithin(int number, int lowest, int highest) {
        if (number < lowest || number > highest) {
            throw new IllegalArgumentException("out of bounds");
        }
    }

    /** A spot is a pew and a seat in one number, NONE if nowhere. */
    private static int pewOf(int spot) {
        return spot < 0 ? NONE : spot / MOST;
    }

    private static int seatOf(int spot) {
        return spot < 0 ? NONE : spot % MOST;
    }

    private static int pewOr12(int spot) {
        return spot < 0 ? MOST : spot / MOST;
    }

    /** What a text tells: people, seats and the three rules, each as steps that work on registers. */
    private static final class Rules {
        /** Numbers stand apart by a byte at least, and so do operators: a text has no more of either. */
        private static final int HALF_TAPE = TAPE / 2;
        private static final int FIRST_OUTCOME = VALUES + HALF_TAPE;

        int people;
        int seats = MOST;
        final int[] ages = new int[MOST];
        /** The values, then the numbers, then each step's outcome. */
        private final int[] registers = new int[FIRST_OUTCOME + HALF_TAPE];
        private int numbers;
        private final int[] ops = new int[HALF_TAPE];
        private final int[] lefts = new int[HALF_TAPE];
        private final int[] rights = new int[HALF_TAPE];
        private int steps;
        private final int[] begins = new int[RULES];
        private final int[] ends = new int[RULES];
        /** The register that holds a rule's outcome; NONE without the rule. */
        private final int[] roots = {NONE, NONE, NONE};

        void clearAll() {
            people = 0;
            seats = MOST;
            numbers = 0;
            steps = 0;
            Arrays.fill(roots, NONE);
        }

        void copyFrom(Rules other) {
            people = other.people;
            seats = other.seats;
            numbers = other.numbers;
            steps = other.steps;
            System.arraycopy(other.ages, 0, ages, 0, MOST);
            System.arraycopy(other.registers, VALUES, registers, VALUES, numbers);
            System.arraycopy(other.ops, 0, ops, 0, steps);
            System.arraycopy(other.lefts, 0, lefts, 0, steps);
            System.arraycopy(other.rights, 0, rights, 0, steps);
            System.arraycopy(other.begins, 0, begins, 0, RULES);
            System.arraycopy(other.ends, 0, ends, 0, RULES);
            System.arraycopy(other.roots, 0, roots, 0, RULES);
        }

        boolean has(int rule) {
            return roots[rule] != NONE;
        }

        void begin(int rule) {
            begins[rule] = steps;
        }

        void end(int rule, int root) {
            ends[rule] = steps;
            roots[rule] = root;
        }

        /** A register that holds a number. */
        int number(int value) {
            if (numbers >= HALF_TAPE) {
                return NONE;
            }
            registers[VALUES + numbers] = value;
            numbers++;
            return VALUES + numbers - 1;
        }

        /** A step behind those so far: answers the register of its outcome; NONE, if a part of it is none. */
        int step(int op, int left, int right) {
            if (left == NONE || right == NONE || steps >= HALF_TAPE) {
                return NONE;
            }
            ops[steps] = op;
            lefts[steps] = left;
            rights[steps] = right;
            steps++;
            return FIRST_OUTCOME + steps - 1;
        }

        /** The values of one person are put into the registers. */
        void ask(int[] held, int person) {
            int spot = held[SPOT + person];
            registers[AGE_VALUE] = held[AGE + person];
            registers[PEW_VALUE] = spot < 0 ? MOST : spot / MOST;
            registers[SEAT_VALUE] = spot < 0 ? MOST : spot % MOST;
            registers[MOVED_VALUE] = held[MOVED + person];
            registers[AWAY_VALUE] = held[AWAY + person];
            registers[SUNDAY_VALUE] = held[SUNDAY];
        }

        void askTheirs(int age) {
            registers[THEIRS_VALUE] = age;
        }

        /** What a rule gives by the values that stand in the registers. */
        int give(int rule) {
            for (int i = begins[rule]; i < ends[rule]; i++) {
                int left = registers[lefts[i]];
                int right = registers[rights[i]];
                int outcome;
                switch (ops[i]) {
                    case OP_OR: outcome = left != 0 || right != 0 ? 1 : 0; break;
                    case OP_AND: outcome = left != 0 && right != 0 ? 1 : 0; break;
                    case OP_NOT: outcome = left == 0 ? 1 : 0; break;
                    case OP_LESS: outcome = left < right ? 1 : 0; break;
                    case OP_SAME: outcome = left == right ? 1 : 0; break;
                    case OP_PLUS: outcome = left + right; break;
                    case OP_MINUS: outcome = left - right; break;
                    case OP_TIMES: outcome = left * right; break;
                    default: outcome = right == 0 ? 0 : left / right; break;
                }
                registers[FIRST_OUTCOME + i] = outcome;
            }
            int root = roots[rule];
            return root == NONE ? 0 : registers[root];
        }
    }

    /** Reads a text into a draft of rules, up to its first fault. */
    private static final class Reader {
        private static final int END = 0;
        private static final int WORD = 1;
        private static final int NUMBER = 2;
        private static final int SIGN = 3;
        private static final int NO_TOKEN = 4;

        private static final String SIGNS = ";()+-*/<=";
        /** Each with a blank behind it; the values stand last, in the order of their registers. */
        private static final String WORDS =
            "person seats arrives sulks minds or and not age pew seat moved away sunday theirs ";
        private static final int PERSON_WORD = 0;
        private static final int SEATS_WORD = 1;
        private static final int ARRIVES_WORD = 2;
        private static final int MINDS_WORD = 4;
        private static final int OR_WORD = 5;
        private static final int AND_WORD = 6;
        private static final int NOT_WORD = 7;
        private static final int FIRST_VALUE_WORD = 8;

        private static final int CANT_STAND = 1;
        private static final int TOO_MUCH = 2;
        private static final int NO_VALUE = 3;
        private static final int TWICE = 5;

        private static final int OR_LEVEL = 0;
        private static final int AND_LEVEL = 1;
        private static final int TEST_LEVEL = 2;
        private static final int SUM_LEVEL = 3;
        private static final int PRODUCT_LEVEL = 4;
        private static final int MOST_WITHIN = 6;
        private static final int MOST_NOTS = 6;
        private static final int MOST_DIGITS = 4;
        private static final int HIGHEST_NUMBER = 9999;

        final Rules draft = new Rules();
        private final int[] text;
        /* The tokens: the kind, the first byte's place, and a number's value, a sign's byte or a word's place in
           WORDS (NONE: it is none of them). The last one is the END. */
        private final int[] kinds = new int[TAPE + 1];
        private final int[] places = new int[TAPE + 1];
        private final int[] tokens = new int[TAPE + 1];
        private int at;
        private int fault;
        private int rule;
        private boolean seatsTold;

        Reader(int[] text) {
            this.text = text;
        }

        /** Answers the fault; 0 without. */
        int read(int n) {
            draft.clearAll();
            fault = 0;
            seatsTold = false;
            scan(Math.min(n, text.length));
            at = 0;
            for (int i = 0; i <= TAPE && fault == 0 && kinds[at] != END; i++) {
                line();
            }
            return fault;
        }

        /** Nothing goes on behind a fault, so the token that is looked at then is the one at fault. */
        int faultPlace() {
            return places[at];
        }

        /** The first fault counts. */
        private int fail(int what) {
            if (fault == 0) {
                fault = what;
            }
            return NONE;
        }

        private void scan(int length) {
            int many = 0;
            int behind = 0;
            for (int i = 0; i < length; i++) {
                if (i >= behind && text[i] != ' ' && text[i] != 10) {
                    behind = endOfToken(i, length);
                    places[many] = i;
                    scanToken(many, i, behind);
                    many++;
                }
            }
            kinds[many] = END;
            places[many] = length;
        }

        private int endOfToken(int from, int length) {
            int end = from + 1;
            boolean isWord = isLetter(text[from]);
            boolean isNumber = isDigit(text[from]);
            while (end < length && (isWord && isLetter(text[end]) || isNumber && isDigit(text[end]))) {
                end++;
            }
            return end;
        }

        private void scanToken(int index, int from, int to) {
            if (isLetter(text[from])) {
                kinds[index] = WORD;
                tokens[index] = wordOf(from, to);
            } else if (isDigit(text[from])) {
                kinds[index] = NUMBER;
                tokens[index] = numberOf(from, to);
            } else {
                kinds[index] = SIGNS.indexOf((char) text[from]) >= 0 ? SIGN : NO_TOKEN;
                tokens[index] = text[from];
            }
        }

        private int wordOf(int from, int to) {
            int word = 0;
            int next = from;
            boolean same = true;
            for (int i = 0; i < WORDS.length(); i++) {
                if (WORDS.charAt(i) != ' ') {
                    same = same && next < to && text[next] == WORDS.charAt(i);
                    next++;
                } else if (same && next == to) {
                    return word;
                } else {
                    word++;
                    next = from;
                    same = true;
                }
            }
            return NONE;
        }

        /** A number of too many digits is beyond all that can be told. */
        private int numberOf(int from, int to) {
            if (to - from > MOST_DIGITS) {
                return HIGHEST_NUMBER + 1;
            }
            int number = 0;
            for (int i = from; i < to; i++) {
                number = number * 10 + text[i] - '0';
            }
            return number;
        }

        private static boolean isLetter(int sign) {
            return sign >= 'a' && sign <= 'z';
        }

        private static boolean isDigit(int sign) {
            return sign >= '0' && sign <= '9';
        }

        private void next() {
            if (kinds[at] != END) {
                at++;
            }
        }

        private boolean isSign(int sign) {
            return kinds[at] == SIGN && tokens[at] == sign;
        }

        private boolean isWord(int word) {
            return kinds[at] == WORD && tokens[at] == word;
        }

        private void line() {
            int word = kinds[at] == WORD ? tokens[at] : NONE;
            if (word == PERSON_WORD) {
                personLine();
            } else if (word == SEATS_WORD) {
                seatsLine();
            } else if (word >= ARRIVES_WORD && word <= MINDS_WORD) {
                ruleLine(word - ARRIVES_WORD);
            } else {
                fail(CANT_STAND);
            }
            if (fault == 0) {
                if (isSign(';')) {
                    next();
                } else {
                    fail(CANT_STAND);
                }
            }
        }

        private void personLine() {
            if (draft.people >= MOST) {
                fail(TOO_MUCH);
                return;
            }
            next();
            int age = numberWithin(0, OLDEST);
            if (fault == 0) {
                draft.ages[draft.people] = age;
                draft.people++;
            }
        }

        private void seatsLine() {
            if (seatsTold) {
                fail(TWICE);
                return;
            }
            seatsTold = true;
            next();
            int seats = numberWithin(1, MOST);
            if (fault == 0) {
                draft.seats = seats;
            }
        }

        private int numberWithin(int lowest, int highest) {
            if (kinds[at] != NUMBER) {
                return fail(CANT_STAND);
            }
            int number = tokens[at];
            if (number < lowest || number > highest) {
                return fail(TOO_MUCH);
            }
            next();
            return number;
        }

        private void ruleLine(int which) {
            if (draft.has(which)) {
                fail(TWICE);
                return;
            }
            next();
            rule = which;
            draft.begin(which);
            int root = climb(OR_LEVEL, 0);
            if (fault == 0) {
                draft.end(which, root);
            }
        }

        /** What binds as its level does, or closer; within counts the expressions around this one. */
        private int climb(int level, int within) {
            if (level == TEST_LEVEL) {
                return test(within);
            }
            if (level > PRODUCT_LEVEL) {
                return part(within);
            }
            int left = climb(level + 1, within);
            for (int i = 0; i < TAPE && fault == 0; i++) {
                int op = operatorOf(level);
                if (op == NONE) {
                    break;
                }
                next();
                left = draft.step(op, left, climb(level + 1, within));
            }
            return left;
        }

        private int operatorOf(int level) {
            switch (level) {
                case OR_LEVEL: return isWord(OR_WORD) ? OP_OR : NONE;
                case AND_LEVEL: return isWord(AND_WORD) ? OP_AND : NONE;
                case SUM_LEVEL: return isSign('+') ? OP_PLUS : isSign('-') ? OP_MINUS : NONE;
                case PRODUCT_LEVEL: return isSign('*') ? OP_TIMES : isSign('/') ? OP_OVER : NONE;
                default: return NONE;
            }
        }

        private int test(int within) {
            int nots = 0;
            for (; nots < MOST_NOTS && isWord(NOT_WORD); nots++) {
                next();
            }
            if (nots == MOST_NOTS && isWord(NOT_WORD)) {
                return fail(TOO_MUCH);
            }
            int left = climb(SUM_LEVEL, within);
            if (fault == 0 && (isSign('<') || isSign('='))) {
                int op = isSign('<') ? OP_LESS : OP_SAME;
                next();
                left = draft.step(op, left, climb(SUM_LEVEL, within));
            }
            for (int i = 0; i < nots; i++) {
                left = draft.step(OP_NOT, left, left);
            }
            return left;
        }

        private int part(int within) {
            int register = NONE;
            if (isSign('(')) {
                next();
                if (within + 1 >= MOST_WITHIN) {
                    return fail(kinds[at] == NUMBER || kinds[at] == WORD || isSign('(') ? TOO_MUCH : CANT_STAND);
                }
                register = climb(OR_LEVEL, within + 1);
                if (!isSign(')')) {
                    fail(CANT_STAND);
                }
            } else if (kinds[at] == NUMBER) {
                register = tokens[at] > HIGHEST_NUMBER ? fail(TOO_MUCH) : draft.number(tokens[at]);
            } else if (kinds[at] == WORD) {
                register = isValue(tokens[at] - FIRST_VALUE_WORD) ? tokens[at] - FIRST_VALUE_WORD : fail(NO_VALUE);
            } else {
                fail(CANT_STAND);
            }
            if (fault == 0) {
                next();
            }
            return register;
        }

        private boolean isValue(int value) {
            if (value == AWAY_VALUE || value == SUNDAY_VALUE) {
                return rule != MINDS;
            }
            return value == THEIRS_VALUE ? rule == MINDS : value >= 0;
        }
    }

    /** Who sits where, and all that is held of people, on one day. */
    private static final class Pews {
        final int[] held = new int[HELD];
        /** Who sits in each spot; only as many of a pew count as are filled. */
        final int[] row = new int[MOST * MOST];
        final int[] filled = new int[MOST];
        final int[] line = new int[MOST];
        int lined;
        /** Whom the latest one who sat down put out, and who was put out by these. */
        int putOutBits;
        int caught;
        private int watchedOut = NONE;
        private int watchedBy = NONE;
        private final int[] arrivals = new int[MOST];
        private final Rules rules;

        Pews(Rules rules) {
            this.rules = rules;
            allStand();
        }

        void beginAnew() {
            Arrays.fill(held, 0);
            allStand();
            System.arraycopy(rules.ages, 0, held, AGE, rules.people);
        }

        private void allStand() {
            for (int p = 0; p < MOST; p++) {
                held[SPOT + p] = NONE;
                held[MOVED + p] = 0;
            }
            Arrays.fill(filled, 0);
        }

        void copyFrom(Pews other) {
            System.arraycopy(other.held, 0, held, 0, HELD);
            System.arraycopy(other.row, 0, row, 0, MOST * MOST);
            System.arraycopy(other.filled, 0, filled, 0, MOST);
        }

        /** The pews follow what is held, where that was put in as a whole. */
        void seatAllByHeld() {
            Arrays.fill(filled, 0);
            for (int p = 0; p < rules.people; p++) {
                int spot = held[SPOT + p];
                if (spot != NONE) {
                    row[spot] = p;
                    filled[spot / MOST]++;
                }
            }
        }

        void watch(int out, int by) {
            watchedOut = out;
            watchedBy = by;
            caught = 0;
        }

        void place(int person, int spot) {
            held[SPOT + person] = spot;
            row[spot] = person;
        }

        /** Answers the pew where the last one of those who move sits down behind all, or alone. */
        int sitDown(int person) {
            putOutBits = 0;
            int comer = person;
            for (int pew = 0; pew < MOST; pew++) {
                int spot = mindingSpot(pew, held[AGE + comer]);
                if (spot != NONE) {
                    int out = row[spot];
                    place(comer, spot);
                    countPutOut(out, comer);
                    comer = out;
                } else if (filled[pew] < rules.seats) {
                    place(comer, pew * MOST + filled[pew]);
                    filled[pew]++;
                    return pew;
                }
            }
            return NONE;
        }

        private int mindingSpot(int pew, int theirs) {
            int end = pew * MOST + filled[pew];
            boolean byRule = rules.has(MINDS);
            rules.askTheirs(theirs);
            for (int spot = pew * MOST; spot < end; spot++) {
                int sitter = row[spot];
                if (byRule) {
                    rules.ask(held, sitter);
                }
                if (byRule ? rules.give(MINDS) > 0 : held[AGE + sitter] > theirs) {
                    return spot;
                }
            }
            return NONE;
        }

        private void countPutOut(int out, int by) {
            held[SPOT + out] = NONE;
            held[MOVED + out]++;
            held[TOTAL + out]++;
            putOutBits |= 1 << out;
            if (out == watchedOut && by == watchedBy) {
                caught++;
            }
        }

        /** One who sits leaves: the others come up. */
        void getUp(int person) {
            int spot = held[SPOT + person];
            int pew = spot / MOST;
            held[SPOT + person] = NONE;
            for (int s = spot + 1; s < pew * MOST + filled[pew]; s++) {
                place(row[s], s - 1);
            }
            filled[pew]--;
            if (filled[pew] == 0) {
                comeUpBehind(pew);
            }
        }

        private void comeUpBehind(int empty) {
            for (int pew = empty + 1; pew < MOST; pew++) {
                filled[pew - 1] = filled[pew];
                for (int seat = 0; seat < filled[pew]; seat++) {
                    place(row[pew * MOST + seat], (pew - 1) * MOST + seat);
                }
            }
            filled[MOST - 1] = 0;
        }

        /** Who would come on the next Sunday, in order. */
        void lineUp(boolean rain) {
            boolean asked = rules.has(SULKS) || rules.has(ARRIVES);
            lined = 0;
            for (int p = 0; p < rules.people; p++) {
                if (asked) {
                    rules.ask(held, p);
                }
                boolean sulks = rules.has(SULKS) && rules.give(SULKS) > 0;
                boolean staysDry = rain && held[AGE + p] >= RAIN_AGE;
                if (!sulks && !staysDry && held[BARRED + p] == 0) {
                    queue(p, rules.has(ARRIVES) ? rules.give(ARRIVES) : p);
                }
            }
        }

        private void queue(int person, int arrival) {
            int place = lined;
            while (place > 0 && arrivals[place - 1] > arrival) {
                arrivals[place] = arrivals[place - 1];
                line[place] = line[place - 1];
                place--;
            }
            arrivals[place] = arrival;
            line[place] = person;
            lined++;
        }

        int placeInLine(int person) {
            for (int i = 0; i < lined; i++) {
                if (line[i] == person) {
                    return i;
                }
            }
            return NONE;
        }

        /** Answers whether one was in line. */
        boolean leaveOut(int person) {
            int place = placeInLine(person);
            if (place == NONE) {
                return false;
            }
            lined--;
            for (int i = place; i < lined; i++) {
                line[i] = line[i + 1];
            }
            return true;
        }

        /** One who is in line stands at another place of it; nothing is done for others. */
        void standAt(int person, int place) {
            if (!leaveOut(person)) {
                return;
            }
            for (int i = lined; i > place; i--) {
                line[i] = line[i - 1];
            }
            line[place] = person;
            lined++;
        }

        /** A Sunday on which those come who are in line. */
        void holdService() {
            allStand();
            for (int i = 0; i < lined; i++) {
                sitDown(line[i]);
            }
            for (int p = 0; p < rules.people; p++) {
                held[AWAY + p] = held[SPOT + p] == NONE ? held[AWAY + p] + 1 : 0;
                if (held[BARRED + p] > 0) {
                    held[BARRED + p]--;
                }
            }
            held[SUNDAY]++;
        }

        void goBy(boolean rain) {
            lineUp(rain);
            holdService();
        }

        int pewsWithSitters() {
            int pews = 0;
            for (int pew = 0; pew < MOST; pew++) {
                if (filled[pew] > 0) {
                    pews++;
                }
            }
            return pews;
        }

        int sitterBits() {
            int bits = 0;
            for (int p = 0; p < rules.people; p++) {
                if (held[SPOT + p] != NONE) {
                    bits |= 1 << p;
                }
            }
            return bits;
        }

        int bitsOfPew(int pew) {
            int bits = 0;
            for (int seat = 0; seat < filled[pew]; seat++) {
                bits |= 1 << row[pew * MOST + seat];
            }
            return bits;
        }

        int agesOfPew(int pew) {
            int ages = 0;
            for (int seat = 0; seat < filled[pew]; seat++) {
                ages += ageAt(pew, seat);
            }
            return ages;
        }

        int ageAt(int pew, int seat) {
            return held[AGE + row[pew * MOST + seat]];
        }

        boolean isInOrder(int pew) {
            for (int seat = 1; seat < filled[pew]; seat++) {
                if (ageAt(pew, seat) < ageAt(pew, seat - 1)) {
                    return false;
                }
            }
            return true;
        }

        int sumOf(int part) {
            int sum = 0;
            for (int p = 0; p < rules.people; p++) {
                sum += held[part + p];
            }
            return sum;
        }
    }

    /** Where all sit behind so many Sundays, if only Sundays go by: worked out once, as far as it was asked for. */
    private static final class Future {
        /** How many Sundays are worked out; NONE: not even what is now. */
        int known = NONE;
        final int[] spots = new int[(FARTHEST + 1) * MOST];
        final int[] moves = new int[(FARTHEST + 1) * MOST];
        private final Pews now;
        private final Pews walker;

        Future(Pews now, Pews walker) {
            this.now = now;
            this.walker = walker;
        }

        void reach(int sundays) {
            int goal = Math.min(sundays, FARTHEST);
            if (known == NONE) {
                walker.copyFrom(now);
                noteDown(0);
            }
            for (int k = known + 1; k <= goal; k++) {
                walker.goBy(false);
                noteDown(k);
            }
        }

        private void noteDown(int sundays) {
            System.arraycopy(walker.held, SPOT, spots, sundays * MOST, MOST);
            System.arraycopy(walker.held, MOVED, moves, sundays * MOST, MOST);
            known = sundays;
        }

        int pewAt(int sundays, int person) {
            return pewOf(spots[sundays * MOST + person]);
        }

        /** How often one is put out on the first so many Sundays. */
        int movesOf(int person, int sundays) {
            int times = 0;
            for (int k = 1; k <= sundays; k++) {
                times += moves[k * MOST + person];
            }
            return times;
        }

        int movesAt(int sundays) {
            int times = 0;
            for (int p = 0; p < MOST; p++) {
                times += moves[sundays * MOST + p];
            }
            return times;
        }

        int sitterBitsAt(int sundays) {
            int bits = 0;
            for (int p = 0; p < MOST; p++) {
                if (spots[sundays * MOST + p] != NONE) {
                    bits |= 1 << p;
                }
            }
            return bits;
        }

        /** The last one of the last pew has the greatest spot. */
        int lastSitterAt(int sundays) {
            int greatest = NONE;
            int last = NONE;
            for (int p = 0; p < MOST; p++) {
                if (spots[sundays * MOST + p] > greatest) {
                    greatest = spots[sundays * MOST + p];
                    last = p;
                }
            }
            return last;
        }

        int pewsAt(int sundays) {
            int last = lastSitterAt(sundays);
            return last == NONE ? 0 : pewAt(sundays, last) + 1;
        }

        boolean areBeside(int sundays, int person, int other) {
            int spot = spots[sundays * MOST + person];
            int otherSpot = spots[sundays * MOST + other];
            return spot != NONE && otherSpot != NONE
                && pewOf(spot) == pewOf(otherSpot) && Math.abs(spot - otherSpot) == 1;
        }

        boolean isAsNow(int sundays) {
            for (int p = 0; p < MOST; p++) {
                if (spots[sundays * MOST + p] != spots[p]) {
                    return false;
                }
            }
            return true;
        }
    }

    /** What was so ahead of each act that is kept, the latest ones. */
    private static final class Acts {
        int kept;
        private int oldest;
        private final int[] before = new int[MOST_ACTS * HELD];

        void keep(int[] held) {
            int slot = (oldest + kept) % MOST_ACTS;
            System.arraycopy(held, 0, before, slot * HELD, HELD);
            if (kept < MOST_ACTS) {
                kept++;
            } else {
                oldest = (oldest + 1) % MOST_ACTS;
            }
        }

        boolean takeBack(int[] held) {
            if (kept == 0) {
                return false;
            }
            kept--;
            int slot = (oldest + kept) % MOST_ACTS;
            System.arraycopy(before, slot * HELD, held, 0, HELD);
            return true;
        }

        void copyFrom(Acts other) {
            kept = other.kept;
            oldest = other.oldest;
            System.arraycopy(other.before, 0, before, 0, before.length);
        }
    }

    /** In which pew one sat behind so many Sundays. */
    private static final class Seen {
        int many;
        private final int[] people = new int[MOST_SEEN];
        private final int[] sundays = new int[MOST_SEEN];
        private final int[] pews = new int[MOST_SEEN];

        void note(int person, int behind, int pew) {
            if (many < MOST_SEEN) {
                people[many] = person;
                sundays[many] = behind;
                pews[many] = pew;
                many++;
            }
        }

        int lastSunday() {
            int last = NONE;
            for (int i = 0; i < many; i++) {
                last = Math.max(last, sundays[i]);
            }
            return last;
        }

        boolean isSo(Pews then, int behind) {
            for (int i = 0; i < many; i++) {
                if (sundays[i] == behind && pewOf(then.held[SPOT + people[i]]) != pews[i]) {
                    return false;
                }
            }
            return true;
        }

        void copyFrom(Seen other) {
            many = other.many;
            System.arraycopy(other.people, 0, people, 0, MOST_SEEN);
            System.arraycopy(other.sundays, 0, sundays, 0, MOST_SEEN);
            System.arraycopy(other.pews, 0, pews, 0, MOST_SEEN);
        }
    }

    /** Whose other age makes all that is seen so. */
    private static final class Guesses {
        boolean made;
        int widest;
        int width;
        /** By person: the ages that do, as bits. */
        private final int[] ages = new int[MOST];
        private final int[] pewBits = new int[MOST];
        private final Pews now;
        private final Pews trial;
        private final Seen seen;

        Guesses(Pews now, Pews trial, Seen seen) {
            this.now = now;
            this.trial = trial;
            this.seen = seen;
        }

        void make() {
            if (made) {
                return;
            }
            Arrays.fill(ages, 0);
            for (int p = 0; p < now.rules.people; p++) {
                for (int age = 0; age <= OLDEST; age++) {
                    if (age != now.held[AGE + p] && isSoWith(p, age)) {
                        ages[p] |= 1 << age;
                    }
                }
            }
            made = true;
        }

        /** Whether all that is seen is so by another age of one; without it, if one is NONE. */
        boolean isSoWith(int person, int age) {
            tryWith(person, age);
            int last = seen.lastSunday();
            for (int k = 0; k <= last; k++) {
                if (k > 0) {
                    trial.lineUp(false);
                    trial.holdService();
                }
                if (!seen.isSo(trial, k)) {
                    return false;
                }
            }
            return true;
        }

        private void tryWith(int person, int age) {
            trial.copyFrom(now);
            if (person != NONE) {
                trial.held[AGE + person] = age;
            }
        }

        int many() {
            int many = 0;
            for (int p = 0; p < MOST; p++) {
                many += Integer.bitCount(ages[p]);
            }
            return many;
        }

        int foremost() {
            for (int p = 0; p < MOST; p++) {
                if (ages[p] != 0) {
                    return 100 * p + Integer.numberOfTrailingZeros(ages[p]);
                }
            }
            return NONE;
        }

        void lookForWidest() {
            Arrays.fill(pewBits, 0);
            for (int p = 0; p < MOST; p++) {
                for (int age = 0; age <= OLDEST; age++) {
                    if ((ages[p] >> age & 1) == 1) {
                        notePewsBy(p, age);
                    }
                }
            }
            widest = NONE;
            width = 0;
            for (int p = 0; p < now.rules.people; p++) {
                if (Integer.bitCount(pewBits[p]) > width) {
                    width = Integer.bitCount(pewBits[p]);
                    widest = p;
                }
            }
        }

        private void notePewsBy(int person, int age) {
            tryWith(person, age);
            for (int k = 0; k < LOOK_SUNDAYS; k++) {
                trial.lineUp(false);
                trial.holdService();
            }
            for (int p = 0; p < now.rules.people; p++) {
                pewBits[p] |= 1 << pewOr12(trial.held[SPOT + p]);
            }
        }
    }

    /** The image. */
    private static final class Keepsake {
        boolean is;
        final int[] held = new int[HELD];
        final Acts acts = new Acts();
        final Seen seen = new Seen();
    }

    /** Those who sit side by side, in couples. */
    private static final class Couples {
        int many;
        int apart;
        final int[] mate = new int[MOST];
        private final int[] tried = new int[MOST];

        void pairAll(Pews pews) {
            many = 0;
            apart = 0;
            Arrays.fill(mate, NONE);
            for (int pew = 0; pew < MOST; pew++) {
                pairPew(pews, pew);
            }
        }

        /** Of an even pew there is one way; of an odd one, one who has an even number of others on each side is alone. */
        private void pairPew(Pews pews, int pew) {
            int sitters = pews.filled[pew];
            int least = NONE;
            for (int alone = sitters % 2 == 0 ? sitters : 0; alone <= sitters; alone += 2) {
                int sum = pairAround(pews, pew, alone);
                if (least == NONE || sum < least || sum == least && isTriedFirst(pews, pew)) {
                    least = sum;
                    for (int seat = 0; seat < sitters; seat++) {
                        int p = pews.row[pew * MOST + seat];
                        mate[p] = tried[p];
                    }
                }
            }
            many += sitters / 2;
            apart += Math.max(least, 0);
        }

        private int pairAround(Pews pews, int pew, int alone) {
            int sum = 0;
            Arrays.fill(tried, NONE);
            for (int i = 0; i < pews.filled[pew] / 2; i++) {
                int seat = 2 * i < alone ? 2 * i : 2 * i + 1;
                int left = pews.row[pew * MOST + seat];
                int right = pews.row[pew * MOST + seat + 1];
                tried[left] = right;
                tried[right] = left;
                sum += Math.abs(pews.ageAt(pew, seat) - pews.ageAt(pew, seat + 1));
            }
            return sum;
        }

        /** Pews share nobody: the first row of each makes the first row of all. */
        private boolean isTriedFirst(Pews pews, int pew) {
            int bits = pews.bitsOfPew(pew);
            for (int p = 0; p < MOST; p++) {
                if ((bits >> p & 1) == 1 && tried[p] != mate[p]) {
                    return mate[p] == NONE || tried[p] != NONE && tried[p] < mate[p];
                }
            }
            return false;
        }
    }

    /** The longest row of those in line in which no age is less than that of the one ahead. */
    private static final class LongestRow {
        int many;
        final int[] row = new int[MOST];
        /** How long the longest row is that begins at each place in line. */
        private final int[] from = new int[MOST];

        void find(Pews pews) {
            many = 0;
            for (int i = pews.lined - 1; i >= 0; i--) {
                from[i] = 1;
                for (int k = i + 1; k < pews.lined; k++) {
                    if (mayFollow(pews, i, k)) {
                        from[i] = Math.max(from[i], from[k] + 1);
                    }
                }
                many = Math.max(many, from[i]);
            }
            int last = NONE;
            for (int i = 0; i < many; i++) {
                last = leastThatGoesOn(pews, last, many - i);
                if (last != NONE) {
                    row[i] = pews.line[last];
                }
            }
        }

        private boolean mayFollow(Pews pews, int place, int next) {
            return place == NONE || pews.held[AGE + pews.line[next]] >= pews.held[AGE + pews.line[place]];
        }

        /** The place of the person of the least number with whom the row still gets as long as can be. */
        private int leastThatGoesOn(Pews pews, int place, int left) {
            int best = NONE;
            for (int k = place + 1; k < pews.lined; k++) {
                if (from[k] == left && mayFollow(pews, place, k)
                    && (best == NONE || pews.line[k] < pews.line[best])) {
                    best = k;
                }
            }
            return best;
        }
    }
}
