/**
 * A road told as a text: cars that run so long as somebody in them goes further, and the riders who
 * make them run. README.md says how to use it; the numbers that its calls answer are the document's.
 */
public final class NorthRoad {
    public static final int NONE = -1;

    private static final int NO_SUCH = -2;
    private static final int BELOW_NOTHING = -3;
    private static final int FAULTY = -4;
    private static final int NOT_NOW = -5;
    private static final int HAS_NOTHING = -6;
    private static final int NO_SUCH_NUMBER = -7;
    private static final int OTHER_WIDTH = -8;
    private static final int NO_SUCH_VALUE = -1000;

    private static final int STEPS = 25;
    private static final int LAST_STEP = 24;
    private static final int MOST_PLACES = 12;
    private static final int MOST_CARS = 3;
    private static final int MOST_RIDERS = 6;
    private static final int MOST_SETS = 64;
    private static final int MOST_ACTS = 40;
    private static final int MOST_BYTES = 700;
    private static final int MOST_NUMBERS = 60;
    private static final int MOST_TOLD = 99;
    private static final int MOST_GUESSED = 20;
    private static final int LAWS_TOLD = 4;
    private static final int SLOTS = 4;
    private static final int IMAGES = 3;
    private static final int WIDTHS = 4;
    private static final int MOST_SEED = 2000000000;
    private static final int MOST_DAYS = 20;
    private static final int GOT_BY_STAYING = 3;

    private final Reader reader;
    private final Road now;
    private final Road read;
    private final Road[] images;
    private final boolean[] imageKept;
    private final Slot[] slots;
    private final Day day;
    private final Trace trace;
    private final Trace guess;
    private final Sets sets;
    private final Rows rows;
    private final Guesses guesses;
    private boolean traceFits;
    private boolean setsFit;
    private boolean rowsFit;

    public NorthRoad() {
        reader = new Reader();
        now = new Road();
        read = new Road();
        images = new Road[IMAGES];
        imageKept = new boolean[IMAGES];
        for (int k = 0; k < IMAGES; k++) {
            images[k] = new Road();
        }
        slots = new Slot[SLOTS];
        for (int s = 0; s < SLOTS; s++) {
            slots[s] = new Slot();
        }
        day = new Day();
        trace = new Trace();
        guess = new Trace();
        sets = new Sets();
        rows = new Rows();
        guesses = new Guesses();
    }

    // ---- the TAPE and the ROAD ----

    public int feed(int a, int b, int c, int d, int e) {
        if (reader.size + 20 > MOST_BYTES) {
            return NONE;
        }
        reader.append(a);
        reader.append(b);
        reader.append(c);
        reader.append(d);
        reader.append(e);
        return reader.size;
    }

    public int end(int n) {
        if (n < 0 || n > reader.size) {
            return NONE;
        }
        reader.size = n;
        return n;
    }

    public int road() {
        reader.parse(read);
        if (reader.fault != 0) {
            return FAULTY;
        }
        now.copy(read);
        reader.size = 0;
        forget();
        return now.lines;
    }

    public int fault(int what) {
        if (what == 0) {
            return reader.fault;
        }
        return what == 1 ? reader.faultAt : NONE;
    }

    public int car(int car, int what) {
        if (!isCar(car)) {
            return NO_SUCH;
        }
        switch (what) {
            case 0:
                return now.from[car];
            case 1:
                return now.to[car];
            case 2:
                return now.load[car];
            default:
                return NO_SUCH;
        }
    }

    public int rider(int rider, int what) {
        if (!isRider(rider)) {
            return NO_SUCH;
        }
        switch (what) {
            case 0:
                return now.stand[rider];
            case 1:
                return now.says[rider];
            case 2:
                return now.home[rider];
            default:
                return NO_SUCH;
        }
    }

    // ---- CARS by STEPS ----

    public int at(int car, int step) {
        if (!isCar(car) || !isStep(step)) {
            return NO_SUCH;
        }
        return seen().carAt(car, step);
    }

    public int aboard(int car, int step) {
        if (!isCar(car) || !isStep(step)) {
            return NO_SUCH;
        }
        return seen().insideOf(car, step);
    }

    public int runs(int car, int step) {
        if (!isCar(car) || !isStep(step)) {
            return NO_SUCH;
        }
        return seen().going[step] >> car & 1;
    }

    public int arrives(int car) {
        if (!isCar(car)) {
            return NO_SUCH;
        }
        return firstWith(seen().arrived, 1 << car);
    }

    public int stands(int car) {
        if (!isCar(car)) {
            return NO_SUCH;
        }
        Trace t = seen();
        int steps = 0;
        for (int step = 0; step < STEPS; step++) {
            steps += t.staying(step, now.cars) >> car & 1;
        }
        return steps;
    }

    public int stuck(int car) {
        if (!isCar(car)) {
            return NO_SUCH;
        }
        Trace t = seen();
        int most = 0;
        int inRow = 0;
        for (int step = 0; step < STEPS; step++) {
            boolean stays = (t.staying(step, now.cars) >> car & 1) == 1;
            inRow = stays ? inRow + 1 : 0;
            most = Math.max(most, inRow);
        }
        return most;
    }

    public int fullest(int car) {
        if (!isCar(car)) {
            return NO_SUCH;
        }
        Trace t = seen();
        int most = 0;
        for (int step = 0; step < STEPS; step++) {
            most = Math.max(most, Integer.bitCount(t.insideOf(car, step)));
        }
        return most;
    }

    // ---- RIDERS by STEPS ----

    public int within(int rider, int step) {
        if (!isRider(rider) || !isStep(step)) {
            return NO_SUCH;
        }
        return seen().carOf(rider, step, now.cars);
    }

    public int place(int rider, int step) {
        if (!isRider(rider) || !isStep(step)) {
            return NO_SUCH;
        }
        return seen().riderAt(rider, step);
    }

    public int home(int rider) {
        if (!isRider(rider)) {
            return NO_SUCH;
        }
        return homeStep(rider);
    }

    public int cars(int rider) {
        if (!isRider(rider)) {
            return NO_SUCH;
        }
        Trace t = seen();
        int ever = 0;
        for (int step = 0; step < STEPS; step++) {
            int car = t.carOf(rider, step, now.cars);
            if (car != NONE) {
                ever |= 1 << car;
            }
        }
        return ever;
    }

    public int rides(int rider) {
        if (!isRider(rider)) {
            return NO_SUCH;
        }
        return seen().riderAt(rider, LAST_STEP) - now.stand[rider];
    }

    public int waits(int rider) {
        if (!isRider(rider)) {
            return NO_SUCH;
        }
        Trace t = seen();
        int steps = 0;
        for (int step = 0; step < STEPS; step++) {
            if (t.isWaiting(rider, step, now.cars)) {
                steps++;
            }
        }
        return steps;
    }

    public int waiting(int place, int step) {
        if (place < 0 || place >= now.places || !isStep(step)) {
            return NO_SUCH;
        }
        return waitingIn(seen(), place, step);
    }

    // ---- all of them by STEPS ----

    public int done(int step) {
        if (!hasRoad() || !isStep(step)) {
            return NO_SUCH;
        }
        return seen().arrived[step];
    }

    public int loads(int step) {
        if (!hasRoad() || !isStep(step)) {
            return NO_SUCH;
        }
        return now.loadOf(seen().arrived[step]);
    }

    public int homes(int step) {
        if (!hasRoad() || !isStep(step)) {
            return NO_SUCH;
        }
        return seen().homed[step];
    }

    public int halt() {
        if (!hasRoad()) {
            return NO_SUCH;
        }
        return haltStep(seen());
    }

    public int halted() {
        if (!hasRoad()) {
            return NO_SUCH;
        }
        Trace t = seen();
        int step = haltStep(t);
        return step == NONE ? NONE : lowest(halting(t, step));
    }

    public int crowd(int step) {
        if (!hasRoad() || !isStep(step)) {
            return NO_SUCH;
        }
        Trace t = seen();
        int most = 0;
        int found = NONE;
        for (int place = 0; place < now.places; place++) {
            int many = Integer.bitCount(waitingIn(t, place, step));
            if (many > most) {
                most = many;
                found = place;
            }
        }
        return found;
    }

    public int meets(int rider, int other) {
        if (!isRider(rider) || !isRider(other)) {
            return NO_SUCH;
        }
        Trace t = seen();
        for (int step = 0; step < STEPS; step++) {
            int car = t.carOf(rider, step, now.cars);
            if (car != NONE && car == t.carOf(other, step, now.cars)) {
                return step;
            }
        }
        return NONE;
    }

    public int alone(int car) {
        if (!isCar(car)) {
            return NO_SUCH;
        }
        Trace t = seen();
        int steps = 0;
        for (int step = 0; step < STEPS; step++) {
            if (t.insideOf(car, step) == 0) {
                steps++;
            }
        }
        return steps;
    }

    public int empty(int step) {
        if (!hasRoad() || !isStep(step)) {
            return NO_SUCH;
        }
        Trace t = seen();
        int found = 0;
        for (int car = 0; car < now.cars; car++) {
            if (t.insideOf(car, step) == 0) {
                found |= 1 << car;
            }
        }
        return found;
    }

    public int further(int car, int step) {
        if (!isCar(car) || !isStep(step)) {
            return NO_SUCH;
        }
        Trace t = seen();
        int found = 0;
        for (int rider = 0; rider < now.riders; rider++) {
            boolean inside = (t.insideOf(car, step) >> rider & 1) == 1;
            if (inside && now.home[rider] > t.carAt(car, step)) {
                found |= 1 << rider;
            }
        }
        return found;
    }

    public int idle(int step) {
        if (!hasRoad() || !isStep(step)) {
            return NO_SUCH;
        }
        return seen().staying(step, now.cars);
    }

    public int ends() {
        if (!hasRoad()) {
            return NO_SUCH;
        }
        return firstWith(seen().arrived, allOf(now.cars));
    }

    public int lead(int step) {
        if (!hasRoad() || !isStep(step)) {
            return NO_SUCH;
        }
        Trace t = seen();
        int found = NONE;
        int furthest = NONE;
        for (int car = 0; car < now.cars; car++) {
            if (t.carAt(car, step) > furthest) {
                furthest = t.carAt(car, step);
                found = car;
            }
        }
        return found;
    }

    public int missed(int rider) {
        if (!isRider(rider)) {
            return NO_SUCH;
        }
        Trace t = seen();
        int steps = 0;
        for (int step = 0; step < STEPS; step++) {
            if (t.isWaiting(rider, step, now.cars) && isCarBeside(t, rider, step)) {
                steps++;
            }
        }
        return steps;
    }

    // ---- riders to cars, who is needed, where one is worth most, what to say ----

    public int best() {
        if (!hasRoad()) {
            return NO_SUCH;
        }
        return tried().best;
    }

    public int plan(int rider) {
        if (!isRider(rider)) {
            return NO_SUCH;
        }
        return tried().first[rider];
    }

    public int ways() {
        if (!hasRoad()) {
            return NO_SUCH;
        }
        return tried().ways;
    }

    public int cover() {
        if (!hasRoad()) {
            return NO_SUCH;
        }
        Sets s = brought();
        int all = allOf(now.riders);
        int found = all;
        for (int set = 0; set <= all; set++) {
            if (s.loads[set] >= s.loads[all] && Integer.bitCount(set) < Integer.bitCount(found)) {
                found = set;
            }
        }
        return found;
    }

    public int needed() {
        if (!hasRoad()) {
            return NO_SUCH;
        }
        Sets s = brought();
        int found = 0;
        for (int rider = 0; rider < now.riders; rider++) {
            if (lostWithout(s, 1 << rider) > 0) {
                found |= 1 << rider;
            }
        }
        return found;
    }

    public int pair() {
        if (!hasRoad()) {
            return NO_SUCH;
        }
        Sets s = brought();
        for (int lesser = 0; lesser < now.riders; lesser++) {
            for (int other = lesser + 1; other < now.riders; other++) {
                boolean both = lostWithout(s, 1 << lesser | 1 << other) > 0;
                if (both && lostWithout(s, 1 << lesser) <= 0 && lostWithout(s, 1 << other) <= 0) {
                    return 10 * lesser + other;
                }
            }
        }
        return NONE;
    }

    public int worth(int rider) {
        if (!isRider(rider)) {
            return NO_SUCH_VALUE;
        }
        return lostWithout(brought(), 1 << rider);
    }

    public int stand(int rider) {
        if (!isRider(rider)) {
            return NO_SUCH;
        }
        day.take(now);
        int found = 0;
        int most = NONE;
        for (int place = 0; place < now.places; place++) {
            day.put(rider, place, now.says[rider], now.home[rider]);
            int loads = loadsOfDay(allOf(now.riders));
            if (loads > most) {
                most = loads;
                found = place;
            }
        }
        return found;
    }

    public int sign(int rider) {
        if (!isRider(rider)) {
            return NO_SUCH;
        }
        int soonest = stepOrNever(homeStep(rider));
        int found = NONE;
        day.take(now);
        for (int n = 0; n <= MOST_GUESSED; n++) {
            day.put(rider, now.stand[rider], n, now.home[rider]);
            day.pass(allOf(now.riders));
            int step = stepOrNever(day.homeStep[rider]);
            if (step < soonest) {
                soonest = step;
                found = n;
            }
        }
        return found;
    }

    public int signs(int rider) {
        if (!isRider(rider)) {
            return NO_SUCH;
        }
        int most = now.loadOf(seen().arrived[LAST_STEP]);
        int found = NONE;
        day.take(now);
        for (int n = 0; n <= MOST_GUESSED; n++) {
            day.put(rider, now.stand[rider], n, now.home[rider]);
            int loads = loadsOfDay(allOf(now.riders));
            if (loads > most) {
                most = loads;
                found = n;
            }
        }
        return found;
    }

    // ---- shares none leaves ----

    public int share(int rider, int what) {
        if (!isRider(rider) || !isPart(what)) {
            return NO_SUCH;
        }
        Sets s = brought();
        long above = 0;
        for (int set = 0; set < 1 << now.riders; set++) {
            if ((set >> rider & 1) == 0) {
                int more = s.loads[set | 1 << rider] - s.loads[set];
                above += ordersWith(Integer.bitCount(set), now.riders) * more;
            }
        }
        return part(above, factorial(now.riders), what);
    }

    public int fair(int slot) {
        int refused = refusedShares(slot);
        if (refused != 0) {
            return refused;
        }
        Sets s = brought();
        int all = allOf(now.riders);
        boolean whole = comparedGift(slots[slot], all, s.loads[all]) == 0;
        return whole && firstLeaving(slots[slot], s) == NONE ? 1 : 0;
    }

    public int leave(int slot) {
        int refused = refusedShares(slot);
        return refused != 0 ? refused : firstLeaving(slots[slot], brought());
    }

    // ---- where one's home is, by which LAW, by what was seen ----

    public int house(int slot, int rider) {
        int refused = refusedGuess(slot, rider);
        return refused != 0 ? refused : guessed(slot, rider).found;
    }

    public int least(int slot, int rider) {
        int refused = refusedGuess(slot, rider);
        return refused != 0 ? refused : guessed(slot, rider).least;
    }

    public int most(int slot, int rider) {
        int refused = refusedGuess(slot, rider);
        return refused != 0 ? refused : guessed(slot, rider).greatest;
    }

    public int ask(int slot, int rider) {
        int refused = refusedGuess(slot, rider);
        if (refused != 0) {
            return refused;
        }
        Guesses g = guessed(slot, rider);
        g.seekQuestion(now.cars);
        return g.question;
    }

    public int leaves(int slot, int rider) {
        int refused = refusedGuess(slot, rider);
        if (refused != 0) {
            return refused;
        }
        Guesses g = guessed(slot, rider);
        g.seekQuestion(now.cars);
        return g.left;
    }

    public int odds(int slot, int rider, int what) {
        if (!isPart(what)) {
            return NO_SUCH;
        }
        int refused = refusedGuess(slot, rider);
        if (refused != 0) {
            return refused;
        }
        Guesses g = guessed(slot, rider);
        return g.found == 0 ? NONE : part(g.comeHome, g.found, what);
    }

    public int laws(int slot) {
        int refused = refusedSeen(slot);
        if (refused != 0) {
            return refused;
        }
        int found = 0;
        day.take(now);
        for (int law = 0; law < LAWS_TOLD; law++) {
            day.law = law;
            guess.follow(day, now, allOf(now.riders));
            if (guess.fits(slots[slot])) {
                found |= 1 << law;
            }
        }
        return found;
    }

    public int by(int law) {
        if (!hasRoad() || law < 0 || law >= LAWS_TOLD) {
            return NO_SUCH;
        }
        return loadsByLaw(law);
    }

    public int law() {
        if (!hasRoad()) {
            return NO_SUCH;
        }
        int found = 0;
        int most = NONE;
        for (int law = 0; law < LAWS_TOLD; law++) {
            int loads = loadsByLaw(law);
            if (loads > most) {
                most = loads;
                found = law;
            }
        }
        return found;
    }

    // ---- two who stay away, and riders who do not come, by chance ----

    public int rests(int rider, int other) {
        if (!isRider(rider) || !isRider(other) || rider == other) {
            return NO_SUCH;
        }
        int found = 0;
        for (int pair = 0; pair < 4; pair++) {
            if (isRest(rider, other, pair & 1, pair >> 1)) {
                found |= 1 << pair;
            }
        }
        return found;
    }

    public int gets(int rider, int other, int away, int otherAway) {
        if (!isRider(rider) || !isRider(other) || rider == other) {
            return NO_SUCH_VALUE;
        }
        if (!isBit(away) || !isBit(otherAway)) {
            return NO_SUCH_VALUE;
        }
        return got(rider, other, away, otherAway);
    }

    public int chance(int car, int what) {
        if (!isCar(car) || !isPart(what)) {
            return NO_SUCH;
        }
        Sets s = brought();
        long above = 0;
        for (int set = 0; set < 1 << now.riders; set++) {
            above += weight(set) * (s.arrived[set] >> car & 1);
        }
        return part(above, power(10, now.riders), what);
    }

    public int mean(int what) {
        if (!hasRoad() || !isPart(what)) {
            return NO_SUCH;
        }
        Sets s = brought();
        long above = 0;
        for (int set = 0; set < 1 << now.riders; set++) {
            above += weight(set) * s.loads[set];
        }
        return part(above, power(10, now.riders), what);
    }

    public int far(int car, int what) {
        if (!isCar(car) || !isPart(what)) {
            return NO_SUCH;
        }
        Sets s = brought();
        long above = 0;
        for (int set = 0; set < 1 << now.riders; set++) {
            above += weight(set) * s.furthest[set * MOST_CARS + car];
        }
        return part(above, power(10, now.riders), what);
    }

    // ---- acts, taken back ----

    public int bar(int car, int rider, int on) {
        if (!isCar(car) || !isRider(rider) || !isBit(on)) {
            return NO_SUCH;
        }
        if (now.acts >= MOST_ACTS) {
            return NOT_NOW;
        }
        int was = now.barred[car] >> rider & 1;
        now.noteAct(car, rider, was);
        now.setBar(car, rider, on);
        forget();
        return was;
    }

    public int tell(int rider, int n) {
        if (!isRider(rider) || n < 0 || n > MOST_TOLD) {
            return NO_SUCH;
        }
        if (now.acts >= MOST_ACTS) {
            return NOT_NOW;
        }
        int was = now.says[rider];
        now.noteAct(NONE, rider, was);
        now.says[rider] = n;
        forget();
        return was;
    }

    public int undo() {
        if (!hasRoad()) {
            return NO_SUCH;
        }
        if (now.acts <= 0) {
            return NOT_NOW;
        }
        now.takeBack();
        forget();
        return now.acts;
    }

    public int anew() {
        if (!hasRoad()) {
            return NO_SUCH;
        }
        int many = now.acts;
        for (int k = 0; k < many; k++) {
            now.takeBack();
        }
        forget();
        return many;
    }

    // ---- days drawn ----

    public int drawn(int seed, int what) {
        if (!hasRoad() || !isSeed(seed) || !isPart(what)) {
            return NO_SUCH;
        }
        int away = drawnAway(seed);
        return what == 0 ? away : brought().loads[allOf(now.riders) & ~away];
    }

    public int luck(int seed, int n, int car) {
        if (!isCar(car) || !isSeed(seed) || n < 1 || n > MOST_DAYS) {
            return NO_SUCH;
        }
        Sets s = brought();
        int days = 0;
        for (int k = 0; k < n; k++) {
            int come = allOf(now.riders) & ~drawnAway(seed + k);
            days += s.arrived[come] >> car & 1;
        }
        return days;
    }

    public int rate(int car, int n) {
        if (!isCar(car) || n < 0 || n > MOST_TOLD) {
            return NO_SUCH;
        }
        if (now.acts > 0) {
            return NOT_NOW;
        }
        int was = now.load[car];
        now.load[car] = n;
        forget();
        return was;
    }

    public int count(int what) {
        switch (what) {
            case 0:
                return now.places;
            case 1:
                return now.law;
            case 2:
                return now.seats;
            case 3:
                return now.odds;
            case 4:
                return now.cars;
            case 5:
                return now.riders;
            case 6:
                return now.acts;
            case 7:
                return now.lines;
            case 8:
                return reader.size;
            case 9:
                return slotsWithRow();
            default:
                return NONE;
        }
    }

    // ---- images ----

    public int image(int k) {
        if (k < 0 || k >= IMAGES) {
            return NO_SUCH;
        }
        images[k].copy(now);
        imageKept[k] = true;
        return 0;
    }

    public int back(int k) {
        if (k < 0 || k >= IMAGES) {
            return NO_SUCH;
        }
        if (!imageKept[k]) {
            return HAS_NOTHING;
        }
        now.copy(images[k]);
        forget();
        return 0;
    }

    // ---- SLOTS ----

    public int row(int slot, int width, int n) {
        if (!isSlot(slot) || width < 0 || width >= WIDTHS || n > MOST_NUMBERS) {
            return NO_SUCH;
        }
        if (n < 0) {
            return BELOW_NOTHING;
        }
        slots[slot].start(width, n);
        return 0;
    }

    public int write(int slot, int i, long v) {
        if (!isSlot(slot)) {
            return NO_SUCH;
        }
        Slot s = slots[slot];
        if (s.width == NONE) {
            return HAS_NOTHING;
        }
        if (i < 0 || i >= s.size) {
            return NO_SUCH_NUMBER;
        }
        s.numbers[i] = cut(v, s.width);
        return 0;
    }

    public int paste(int slot, int i, int to, int k, int n) {
        if (!isSlot(slot) || !isSlot(to)) {
            return NO_SUCH;
        }
        Slot source = slots[slot];
        Slot target = slots[to];
        if (source.width == NONE || target.width == NONE) {
            return HAS_NOTHING;
        }
        if (source.width != target.width) {
            return OTHER_WIDTH;
        }
        if (i < 0 || k < 0 || n < 0 || i > source.size - n || k > target.size - n) {
            return NO_SUCH_NUMBER;
        }
        System.arraycopy(source.numbers, i, target.numbers, k, n);
        return 0;
    }

    // ---- what there is ----

    private boolean hasRoad() {
        return now.lines > 0;
    }

    private boolean isCar(int car) {
        return car >= 0 && car < now.cars;
    }

    private boolean isRider(int rider) {
        return rider >= 0 && rider < now.riders;
    }

    private static boolean isStep(int step) {
        return step >= 0 && step < STEPS;
    }

    private static boolean isSlot(int slot) {
        return slot >= 0 && slot < SLOTS;
    }

    private static boolean isSeed(int seed) {
        return seed >= 0 && seed <= MOST_SEED;
    }

    private static boolean isBit(int n) {
        return n == 0 || n == 1;
    }

    private static boolean isPart(int what) {
        return what == 0 || what == 1;
    }

    private int slotsWithRow() {
        int many = 0;
        for (int s = 0; s < SLOTS; s++) {
            if (slots[s].width != NONE) {
                many++;
            }
        }
        return many;
    }

    // ---- what is known of the ROAD as it is now, kept until it changes ----

    private void forget() {
        traceFits = false;
        setsFit = false;
        rowsFit = false;
    }

    private Trace seen() {
        if (!traceFits) {
            day.take(now);
            trace.follow(day, now, allOf(now.riders));
            traceFits = true;
        }
        return trace;
    }

    private Sets brought() {
        if (!setsFit) {
            day.take(now);
            sets.fill(day, now);
            setsFit = true;
        }
        return sets;
    }

    private Rows tried() {
        if (!rowsFit) {
            day.take(now);
            rows.learn(day, now);
            rows.tryAll(now);
            rowsFit = true;
        }
        return rows;
    }

    private int homeStep(int rider) {
        return firstWith(seen().homed, 1 << rider);
    }

    private static int stepOrNever(int step) {
        return step == NONE ? STEPS : step;
    }

    private int waitingIn(Trace t, int place, int step) {
        int found = 0;
        for (int rider = 0; rider < now.riders; rider++) {
            if (t.riderAt(rider, step) == place && t.isWaiting(rider, step, now.cars)) {
                found |= 1 << rider;
            }
        }
        return found;
    }

    private boolean isCarBeside(Trace t, int rider, int step) {
        for (int car = 0; car < now.cars; car++) {
            boolean arrived = (t.arrived[step] >> car & 1) == 1;
            if (!arrived && t.carAt(car, step) == t.riderAt(rider, step)) {
                return true;
            }
        }
        return false;
    }

    private int halting(Trace t, int step) {
        return step < 1 ? 0 : t.staying(step, now.cars) & t.going[step - 1];
    }

    private int haltStep(Trace t) {
        for (int step = 1; step < STEPS; step++) {
            if (halting(t, step) != 0) {
                return step;
            }
        }
        return NONE;
    }

    private int lostWithout(Sets s, int set) {
        int all = allOf(now.riders);
        return s.loads[all] - s.loads[all & ~set];
    }

    private int loadsOfDay(int come) {
        day.pass(come);
        return now.loadOf(day.arrived);
    }

    private int loadsByLaw(int law) {
        day.take(now);
        day.law = law;
        return loadsOfDay(allOf(now.riders));
    }

    // ---- shares ----

    private int refusedShares(int slot) {
        if (!isSlot(slot) || !hasRoad()) {
            return NO_SUCH;
        }
        if (slots[slot].width == NONE) {
            return HAS_NOTHING;
        }
        return slots[slot].size == now.riders ? 0 : NO_SUCH;
    }

    private int firstLeaving(Slot gifts, Sets s) {
        for (int set = 1; set < 1 << now.riders; set++) {
            if (comparedGift(gifts, set, s.loads[set]) < 0) {
                return set;
            }
        }
        return NONE;
    }

    /** Six numbers of 8 bytes may pass the bounds of a long together, so their halves are added. */
    private static int comparedGift(Slot gifts, int set, int loads) {
        long high = 0;
        long low = 0;
        for (int rider = 0; rider < gifts.size; rider++) {
            if (rider < MOST_RIDERS && (set >> rider & 1) == 1) {
                high += gifts.numbers[rider] >> 32;
                low += gifts.numbers[rider] & 0xffffffffL;
            }
        }
        high += low >> 32;
        low &= 0xffffffffL;
        return high != 0 ? Long.compare(high, 0L) : Long.compare(low, (long) loads);
    }

    /** In how many orders just the given number of riders come ahead, and of those a given set. */
    private static long ordersWith(int ahead, int riders) {
        return factorial(ahead) * factorial(riders - 1 - ahead);
    }

    // ---- guesses ----

    private int refusedSeen(int slot) {
        if (!isSlot(slot) || !hasRoad()) {
            return NO_SUCH;
        }
        Slot s = slots[slot];
        if (s.width == NONE) {
            return HAS_NOTHING;
        }
        if (s.size % 3 != 0) {
            return NO_SUCH;
        }
        for (int i = 0; i + 2 < s.size; i += 3) {
            boolean isCarTold = s.numbers[i] >= 0 && s.numbers[i] < now.cars;
            boolean isStepTold = s.numbers[i + 1] >= 0 && s.numbers[i + 1] < STEPS;
            boolean isPlaceTold = s.numbers[i + 2] >= 0 && s.numbers[i + 2] < now.places;
            if (!isCarTold || !isStepTold || !isPlaceTold) {
                return NO_SUCH;
            }
        }
        return 0;
    }

    private int refusedGuess(int slot, int rider) {
        return isRider(rider) ? refusedSeen(slot) : NO_SUCH;
    }

    private Guesses guessed(int slot, int rider) {
        guesses.start();
        day.take(now);
        for (int home = 0; home <= MOST_GUESSED; home++) {
            day.put(rider, now.stand[rider], now.says[rider], home);
            guess.follow(day, now, allOf(now.riders));
            if (guess.fits(slots[slot])) {
                guesses.add(home, guess, rider, now.cars);
            }
        }
        return guesses;
    }

    // ---- choices, chance and draws ----

    private int got(int rider, int other, int away, int otherAway) {
        if (away == 1) {
            return GOT_BY_STAYING;
        }
        int all = allOf(now.riders);
        day.take(now);
        day.pass(otherAway == 1 ? all & ~(1 << other) : all);
        int step = day.homeStep[rider];
        return step == NONE ? 0 : 25 - step;
    }

    private boolean isRest(int rider, int other, int away, int otherAway) {
        boolean firstRests = got(rider, other, away, otherAway) >= got(rider, other, 1 - away, otherAway);
        return firstRests && got(other, rider, otherAway, away) >= got(other, rider, 1 - otherAway, away);
    }

    private long weight(int come) {
        int many = Integer.bitCount(come);
        return power(10 - now.odds, many) * power(now.odds, now.riders - many);
    }

    private int drawnAway(int seed) {
        long x = seed;
        int away = 0;
        for (int rider = 0; rider < now.riders; rider++) {
            x = (1103515245L * x + 12345L) % 2147483648L;
            if (x / 65536L % 10L < now.odds) {
                away |= 1 << rider;
            }
        }
        return away;
    }

    // ---- numbers ----

    private static int allOf(int many) {
        return (1 << many) - 1;
    }

    private static int lowest(int set) {
        for (int k = 0; k < 32; k++) {
            if ((set >> k & 1) == 1) {
                return k;
            }
        }
        return NONE;
    }

    private static int firstWith(int[] bitsByStep, int bits) {
        for (int step = 0; step < bitsByStep.length; step++) {
            if ((bitsByStep[step] & bits) == bits) {
                return step;
            }
        }
        return NONE;
    }

    private static long power(int base, int times) {
        long p = 1;
        for (int k = 0; k < times; k++) {
            p *= base;
        }
        return p;
    }

    private static long factorial(int n) {
        long p = 1;
        for (int k = 2; k <= n; k++) {
            p *= k;
        }
        return p;
    }

    /** One side of a fraction in lowest terms. */
    private static int part(long above, long below, int what) {
        long divisor = commonDivisor(Math.abs(above), below);
        long side = what == 0 ? above : below;
        return divisor == 0 ? 0 : (int) (side / divisor);
    }

    private static long commonDivisor(long a, long b) {
        long x = a;
        long y = b;
        for (int k = 0; k < 200 && y != 0; k++) {
            long rest = x % y;
            x = y;
            y = rest;
        }
        return x;
    }

    private static long cut(long v, int width) {
        switch (width) {
            case 0:
                return (byte) v;
            case 1:
                return (short) v;
            case 2:
                return (int) v;
            default:
                return v;
        }
    }

    /** What a text told, as it is now, and the acts done on it, each with what it takes to undo it. */
    private static final class Road {
        int places;
        int law;
        int seats;
        int odds;
        int cars;
        int riders;
        int lines;
        int acts;
        final int[] from = new int[MOST_CARS];
        final int[] to = new int[MOST_CARS];
        final int[] load = new int[MOST_CARS];
        final int[] barred = new int[MOST_CARS];
        final int[] stand = new int[MOST_RIDERS];
        final int[] says = new int[MOST_RIDERS];
        final int[] home = new int[MOST_RIDERS];
        final int[] actCar = new int[MOST_ACTS];
        final int[] actRider = new int[MOST_ACTS];
        final int[] actWas = new int[MOST_ACTS];

        void clear() {
            places = 0;
            law = 0;
            seats = 0;
            odds = 0;
            cars = 0;
            riders = 0;
            lines = 0;
            acts = 0;
            for (int car = 0; car < MOST_CARS; car++) {
                barred[car] = 0;
            }
        }

        void copy(Road other) {
            places = other.places;
            law = other.law;
            seats = other.seats;
            odds = other.odds;
            cars = other.cars;
            riders = other.riders;
            lines = other.lines;
            acts = other.acts;
            System.arraycopy(other.from, 0, from, 0, MOST_CARS);
            System.arraycopy(other.to, 0, to, 0, MOST_CARS);
            System.arraycopy(other.load, 0, load, 0, MOST_CARS);
            System.arraycopy(other.barred, 0, barred, 0, MOST_CARS);
            System.arraycopy(other.stand, 0, stand, 0, MOST_RIDERS);
            System.arraycopy(other.says, 0, says, 0, MOST_RIDERS);
            System.arraycopy(other.home, 0, home, 0, MOST_RIDERS);
            System.arraycopy(other.actCar, 0, actCar, 0, MOST_ACTS);
            System.arraycopy(other.actRider, 0, actRider, 0, MOST_ACTS);
            System.arraycopy(other.actWas, 0, actWas, 0, MOST_ACTS);
        }

        void addCar(int start, int goal, int weight) {
            if (cars < MOST_CARS) {
                from[cars] = start;
                to[cars] = goal;
                load[cars] = weight;
                cars++;
            }
        }

        void addRider(int place, int sign, int house) {
            if (riders < MOST_RIDERS) {
                stand[riders] = place;
                says[riders] = sign;
                home[riders] = house;
                riders++;
            }
        }

        int loadOf(int set) {
            int sum = 0;
            for (int car = 0; car < cars; car++) {
                if ((set >> car & 1) == 1) {
                    sum += load[car];
                }
            }
            return sum;
        }

        void setBar(int car, int rider, int on) {
            int bit = 1 << rider;
            barred[car] = on == 1 ? barred[car] | bit : barred[car] & ~bit;
        }

        /** An act of a sign told has no CAR. */
        void noteAct(int car, int rider, int was) {
            if (acts < MOST_ACTS) {
                actCar[acts] = car;
                actRider[acts] = rider;
                actWas[acts] = was;
                acts++;
            }
        }

        void takeBack() {
            if (acts <= 0) {
                return;
            }
            acts--;
            if (actCar[acts] == NONE) {
                says[actRider[acts]] = actWas[acts];
            } else {
                setBar(actCar[acts], actRider[acts], actWas[acts]);
            }
        }
    }

    /** The TAPE, its TOKENS, and what it tells: a ROAD or a FAULT. */
    private static final class Reader {
        static final int END = 0;
        static final int WORD = 1;
        static final int NUMBER = 2;
        static final int CLOSE = 3;
        static final int STRANGE = 4;
        static final int CANNOT_STAND = 1;
        static final int OUT_OF_BOUNDS = 2;
        static final int TOO_MANY = 3;
        /** Above every bound: longer numbers are held at it. */
        static final int BEYOND = 1000;

        final byte[] bytes = new byte[MOST_BYTES];
        int size;
        int fault;
        int faultAt = NONE;
        private int next;
        private int kind;
        private int start;
        private int value;

        void append(int number) {
            for (int shift = 24; shift >= 0 && size < MOST_BYTES; shift -= 8) {
                bytes[size] = (byte) (number >> shift);
                size++;
            }
        }

        void parse(Road into) {
            into.clear();
            fault = 0;
            faultAt = NONE;
            next = 0;
            advance();
            for (int k = 0; k < MOST_BYTES && kind != END && fault == 0; k++) {
                line(into);
            }
        }

        private void line(Road into) {
            if (into.lines == 0) {
                roadLine(into);
            } else if (isWord("car")) {
                carLine(into);
            } else if (isWord("rider")) {
                riderLine(into);
            } else {
                refuse(CANNOT_STAND);
            }
            if (fault == 0 && kind != CLOSE) {
                refuse(CANNOT_STAND);
            }
            if (fault == 0) {
                into.lines++;
                advance();
            }
        }

        private void roadLine(Road into) {
            if (!isWord("road")) {
                refuse(CANNOT_STAND);
                return;
            }
            advance();
            into.places = number("places", 2, MOST_PLACES);
            into.law = number("law", 0, LAWS_TOLD - 1);
            into.seats = number("seats", 1, 4);
            into.odds = number("odds", 0, 10);
        }

        private void carLine(Road into) {
            if (into.cars >= MOST_CARS) {
                refuse(TOO_MANY);
                return;
            }
            advance();
            int from = number("from", 0, into.places - 2);
            int to = number("to", from + 1, into.places - 1);
            int load = number("load", 0, MOST_TOLD);
            into.addCar(from, to, load);
        }

        private void riderLine(Road into) {
            if (into.riders >= MOST_RIDERS) {
                refuse(TOO_MANY);
                return;
            }
            advance();
            int place = number("at", 0, into.places - 1);
            int sign = number("says", 0, MOST_TOLD);
            int house = number("home", 0, MOST_TOLD);
            into.addRider(place, sign, house);
        }

        /** A word and its number; behind a FAULT nothing is read any more. */
        private int number(String word, int least, int greatest) {
            if (fault != 0) {
                return 0;
            }
            if (!isWord(word)) {
                return refuse(CANNOT_STAND);
            }
            advance();
            if (kind != NUMBER) {
                return refuse(CANNOT_STAND);
            }
            if (value < least || value > greatest) {
                return refuse(OUT_OF_BOUNDS);
            }
            int told = value;
            advance();
            return told;
        }

        private int refuse(int which) {
            fault = which;
            faultAt = start;
            return 0;
        }

        private void advance() {
            while (next < size && isBlank(bytes[next])) {
                next++;
            }
            start = next;
            if (next >= size) {
                kind = END;
            } else if (isLetter(bytes[next])) {
                kind = WORD;
                while (next < size && isLetter(bytes[next])) {
                    next++;
                }
            } else if (isDigit(bytes[next])) {
                kind = NUMBER;
                value = 0;
                while (next < size && isDigit(bytes[next])) {
                    value = Math.min(BEYOND, 10 * value + bytes[next] - '0');
                    next++;
                }
            } else {
                kind = bytes[next] == ';' ? CLOSE : STRANGE;
                next++;
            }
        }

        private boolean isWord(String word) {
            if (kind != WORD || next - start != word.length()) {
                return false;
            }
            for (int i = 0; i < word.length(); i++) {
                if (bytes[start + i] != word.charAt(i)) {
                    return false;
                }
            }
            return true;
        }

        private static boolean isBlank(int b) {
            return b == 32 || b == 10;
        }

        private static boolean isLetter(int b) {
            return b >= 'a' && b <= 'z';
        }

        private static boolean isDigit(int b) {
            return b >= '0' && b <= '9';
        }
    }

    /** A row of numbers, held as longs that are cut to the width; without a width there is none. */
    private static final class Slot {
        final long[] numbers = new long[MOST_NUMBERS];
        int width = NONE;
        int size;

        void start(int widthNow, int sizeNow) {
            width = widthNow;
            size = sizeNow;
            for (int i = 0; i < MOST_NUMBERS; i++) {
                numbers[i] = 0;
            }
        }
    }

    /** One day on a ROAD, STEP by STEP; who is where is held as bits by PLACES and by CARS. */
    private static final class Day {
        int law;
        int arrived;
        int homed;
        final int[] homeStep = new int[MOST_RIDERS];
        final int[] spot = new int[MOST_CARS];
        final int[] inside = new int[MOST_CARS];
        private int places;
        private int cars;
        private int seats;
        private final int[] from = new int[MOST_CARS];
        private final int[] to = new int[MOST_CARS];
        private final int[] open = new int[MOST_CARS];
        private final int[] standers = new int[MOST_PLACES];
        private final int[] dwellers = new int[MOST_PLACES];
        private final int[] goFurther = new int[MOST_PLACES];
        private final int[] sayMore = new int[MOST_PLACES];
        private final int[] queue = new int[MOST_PLACES];

        void take(Road r) {
            places = r.places;
            cars = r.cars;
            seats = r.seats;
            law = r.law;
            for (int car = 0; car < cars; car++) {
                from[car] = r.from[car];
                to[car] = r.to[car];
                open[car] = ~r.barred[car];
            }
            for (int rider = 0; rider < r.riders; rider++) {
                put(rider, r.stand[rider], r.says[rider], r.home[rider]);
            }
        }

        void put(int rider, int stand, int says, int home) {
            int bit = 1 << rider;
            for (int place = 0; place < places; place++) {
                standers[place] = with(standers[place], bit, place == stand);
                dwellers[place] = with(dwellers[place], bit, place == home);
                goFurther[place] = with(goFurther[place], bit, home > place);
                sayMore[place] = with(sayMore[place], bit, says > place);
            }
        }

        /** One CAR takes whomever it may, the others nobody. */
        void openAlone(int only) {
            for (int car = 0; car < cars; car++) {
                open[car] = car == only ? ~0 : 0;
            }
        }

        private static int with(int set, int bit, boolean in) {
            return in ? set | bit : set & ~bit;
        }

        /** To where it ends: a STEP at which no CAR goes on changes nothing, nor do those behind it. */
        void pass(int come) {
            begin(come);
            boolean goes = true;
            for (int step = 0; step < STEPS && goes; step++) {
                settle(step);
                int going = running();
                goes = going != 0;
                if (step < LAST_STEP) {
                    move(going);
                }
            }
        }

        void begin(int come) {
            arrived = 0;
            homed = 0;
            for (int place = 0; place < places; place++) {
                queue[place] = standers[place] & come;
            }
            for (int car = 0; car < cars; car++) {
                spot[car] = from[car];
                inside[car] = 0;
            }
            for (int rider = 0; rider < MOST_RIDERS; rider++) {
                homeStep[rider] = NONE;
            }
        }

        /** Out at home, out where the CAR has arrived, and in. */
        void settle(int step) {
            comeHome(step);
            for (int car = 0; car < cars; car++) {
                int place = spot[car];
                if (place == to[car]) {
                    arrived |= 1 << car;
                    queue[place] |= inside[car];
                    inside[car] = 0;
                }
            }
            for (int car = 0; car < cars; car++) {
                if ((arrived >> car & 1) == 0) {
                    takeIn(car);
                }
            }
        }

        /** Who waits where his home is does so at STEP 0: later he comes there in a CAR alone. */
        private void comeHome(int step) {
            int before = homed;
            if (step == 0) {
                for (int place = 0; place < places; place++) {
                    homed |= queue[place] & dwellers[place];
                    queue[place] &= ~dwellers[place];
                }
            }
            for (int car = 0; car < cars; car++) {
                int out = inside[car] & dwellers[spot[car]];
                homed |= out;
                inside[car] &= ~out;
            }
            if (homed != before) {
                noteHome(homed & ~before, step);
            }
        }

        private void noteHome(int set, int step) {
            for (int rider = 0; rider < MOST_RIDERS; rider++) {
                if ((set >> rider & 1) == 1) {
                    homeStep[rider] = step;
                }
            }
        }

        private void takeIn(int car) {
            int place = spot[car];
            int able = queue[place] & sayMore[place] & open[car];
            if (able == 0) {
                return;
            }
            int free = seats - Integer.bitCount(inside[car]);
            for (int k = 0; k < free && able != 0; k++) {
                int bit = able & -able;
                able &= ~bit;
                queue[place] &= ~bit;
                inside[car] |= bit;
            }
        }

        int running() {
            int found = 0;
            for (int car = 0; car < cars; car++) {
                if ((arrived >> car & 1) == 0 && isRunning(car)) {
                    found |= 1 << car;
                }
            }
            return found;
        }

        private boolean isRunning(int car) {
            int in = inside[car];
            int place = spot[car];
            switch (law) {
                case 0:
                    return (in & goFurther[to[car]]) != 0;
                case 2:
                    return 2 * Integer.bitCount(in & goFurther[place]) > Integer.bitCount(in);
                case 3:
                    return in == 0 ? place % 2 == 0 : (in & goFurther[place]) != 0;
                default:
                    return (in & goFurther[place]) != 0;
            }
        }

        void move(int going) {
            for (int car = 0; car < cars; car++) {
                spot[car] += going >> car & 1;
            }
        }
    }

    /** A day by its STEPS, as it was when all had got in and out who did. */
    private static final class Trace {
        final int[] going = new int[STEPS];
        final int[] arrived = new int[STEPS];
        final int[] homed = new int[STEPS];
        private final int[] carPlace = new int[MOST_CARS * STEPS];
        private final int[] carInside = new int[MOST_CARS * STEPS];
        private final int[] riderPlace = new int[MOST_RIDERS * STEPS];

        /** Behind a STEP at which no CAR goes on all is as it was then. */
        void follow(Day d, Road r, int come) {
            d.begin(come);
            boolean goes = true;
            for (int step = 0; step < STEPS; step++) {
                if (goes) {
                    d.settle(step);
                }
                note(step, d, r);
                goes = going[step] != 0;
                if (goes && step < LAST_STEP) {
                    d.move(going[step]);
                }
            }
        }

        private void note(int step, Day d, Road r) {
            arrived[step] = d.arrived;
            homed[step] = d.homed;
            going[step] = d.running();
            for (int car = 0; car < r.cars; car++) {
                carPlace[car * STEPS + step] = d.spot[car];
                carInside[car * STEPS + step] = d.inside[car];
            }
            for (int rider = 0; rider < r.riders; rider++) {
                riderPlace[rider * STEPS + step] = comeTo(rider, step, r);
            }
        }

        /** A RIDER comes to where the CAR has come in which he was, whether he gets out there or not. */
        private int comeTo(int rider, int step, Road r) {
            if (step == 0) {
                return r.stand[rider];
            }
            int car = carOf(rider, step - 1, r.cars);
            return car == NONE ? riderAt(rider, step - 1) : carAt(car, step);
        }

        int carAt(int car, int step) {
            return carPlace[car * STEPS + step];
        }

        int insideOf(int car, int step) {
            return carInside[car * STEPS + step];
        }

        int riderAt(int rider, int step) {
            return riderPlace[rider * STEPS + step];
        }

        int carOf(int rider, int step, int cars) {
            for (int car = 0; car < cars; car++) {
                if ((insideOf(car, step) >> rider & 1) == 1) {
                    return car;
                }
            }
            return NONE;
        }

        boolean isWaiting(int rider, int step, int cars) {
            return (homed[step] >> rider & 1) == 0 && carOf(rider, step, cars) == NONE;
        }

        int staying(int step, int cars) {
            return allOf(cars) & ~going[step] & ~arrived[step];
        }

        /** The row's numbers have been looked at: each three are a CAR, a STEP, a PLACE. */
        boolean fits(Slot s) {
            for (int i = 0; i + 2 < s.size; i += 3) {
                if (carAt((int) s.numbers[i], (int) s.numbers[i + 1]) != s.numbers[i + 2]) {
                    return false;
                }
            }
            return true;
        }
    }

    /** What each set of RIDERS brings, if those alone come. */
    private static final class Sets {
        final int[] loads = new int[MOST_SETS];
        final int[] arrived = new int[MOST_SETS];
        final int[] furthest = new int[MOST_SETS * MOST_CARS];

        void fill(Day d, Road r) {
            for (int set = 0; set < 1 << r.riders; set++) {
                d.pass(set);
                arrived[set] = d.arrived;
                loads[set] = r.loadOf(d.arrived);
                for (int car = 0; car < r.cars; car++) {
                    furthest[set * MOST_CARS + car] = d.spot[car];
                }
            }
        }
    }

    /**
     * All rows of RIDERS to CARS, the least first: none is less than CAR 0, RIDER 0 counts most.
     * By a row no RIDER ever changes CARS, so that CARS do not touch one another: each is tried by
     * itself with each set of RIDERS, and rows are put together from what was found.
     */
    private static final class Rows {
        int best;
        int ways;
        final int[] first = new int[MOST_RIDERS];
        private final int[] choice = new int[MOST_RIDERS];
        private final int[] given = new int[MOST_CARS];
        private final long[] through = new long[MOST_CARS];

        /** The sets by which a CAR arrives, if it alone takes RIDERS: a bit for each of up to 64. */
        void learn(Day d, Road r) {
            for (int car = 0; car < r.cars; car++) {
                through[car] = 0;
                d.openAlone(car);
                for (int set = 0; set < 1 << r.riders; set++) {
                    d.pass(set);
                    if ((d.arrived >> car & 1) == 1) {
                        through[car] |= 1L << set;
                    }
                }
            }
        }

        void tryAll(Road r) {
            best = NONE;
            ways = 0;
            for (int car = 0; car < r.cars; car++) {
                given[car] = 0;
            }
            for (int rider = 0; rider < r.riders; rider++) {
                choice[rider] = NONE;
            }
            long many = power(r.cars + 1, r.riders);
            for (long k = 0; k < many; k++) {
                weigh(r.loadOf(arriving(r.cars)));
                goOn(r);
            }
        }

        private int arriving(int cars) {
            int found = 0;
            for (int car = 0; car < cars; car++) {
                if ((through[car] >> given[car] & 1L) == 1L) {
                    found |= 1 << car;
                }
            }
            return found;
        }

        private void weigh(int loads) {
            if (loads > best) {
                best = loads;
                ways = 0;
                System.arraycopy(choice, 0, first, 0, MOST_RIDERS);
            }
            if (loads == best) {
                ways++;
            }
        }

        /** The next row: the last RIDER who has not the last CAR has the next one, those behind him none. */
        private void goOn(Road r) {
            boolean carries = true;
            for (int rider = r.riders - 1; rider >= 0 && carries; rider--) {
                int was = choice[rider];
                carries = was == r.cars - 1;
                choice[rider] = carries ? NONE : was + 1;
                give(was, 1 << rider, false);
                give(choice[rider], 1 << rider, true);
            }
        }

        private void give(int car, int bit, boolean on) {
            if (car != NONE) {
                given[car] = on ? given[car] | bit : given[car] & ~bit;
            }
        }
    }

    /** The homes of a RIDER that fit what was seen, and what another look would leave of them. */
    private static final class Guesses {
        int found;
        int least;
        int greatest;
        int comeHome;
        int question;
        int left;
        private final int[] places = new int[MOST_CARS * STEPS * MOST_PLACES];

        void start() {
            found = 0;
            least = NONE;
            greatest = NONE;
            comeHome = 0;
            for (int k = 0; k < MOST_CARS * STEPS * MOST_PLACES; k++) {
                places[k] = 0;
            }
        }

        void add(int home, Trace t, int rider, int cars) {
            least = found == 0 ? home : least;
            greatest = home;
            found++;
            comeHome += t.homed[LAST_STEP] >> rider & 1;
            for (int look = 0; look < cars * STEPS; look++) {
                places[look * MOST_PLACES + t.carAt(look / STEPS, look % STEPS)]++;
            }
        }

        void seekQuestion(int cars) {
            question = NONE;
            left = found;
            for (int look = 0; look < cars * STEPS; look++) {
                int worst = worstOf(look);
                if (worst < left) {
                    left = worst;
                    question = 100 * (look / STEPS) + look % STEPS;
                }
            }
        }

        private int worstOf(int look) {
            int worst = 0;
            for (int place = 0; place < MOST_PLACES; place++) {
                worst = Math.max(worst, places[look * MOST_PLACES + place]);
            }
            return worst;
        }
    }
}
