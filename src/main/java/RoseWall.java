import java.util.Arrays;

/** A rented room whose wallpaper gives notice: ../shared/DOC.md says what each call promises. */
public final class RoseWall {
    public static final int NONE = -1;

    private static final int NO_SUCH = -2;
    private static final int BAD_NUMBER = -3;
    private static final int TOO_MANY = -4;
    private static final int NOT_NOW = -5;
    private static final int MISSING = -6;
    private static final int NO_PLACE = -7;
    private static final int WHY_NOT = -10;
    private static final int FAULTY = -30;

    private static final int TEXT = 900;
    private static final int ROSES = 9;
    private static final int TENANTS = 4;
    private static final int TEMPERS = 10;
    private static final int TRAYS = 4;
    private static final int TRAY_PLACES = 40;
    private static final int IMAGES = 2;
    private static final int CALLS_BACK = 10;

    /** A PLACE is a wall with who is in: the wall's bits below, the tenant (NOBODY: none) above. */
    private static final int WHO = 9;
    private static final int WALL_BITS = 511;
    private static final int NOBODY = 4;
    private static final int SLOTS = 5;
    private static final int PLACES = 2560;
    /** Of one tenant's stay only the walls with it in, and those with nobody in, can come. */
    private static final int NODES = 1024;

    private static final int DEED_LET = 10;
    private static final int DEED_TURN = 20;
    private static final int DEED_TEMPER = 30;

    private final byte[] tape = new byte[TEXT];
    private int taped;
    private final Tokens tokens = new Tokens();
    private final RoomReader reader = new RoomReader();
    /** The room, two images and one to read a new text into: more are never held at once. */
    private final Room[] pool = new Room[IMAGES + 2];
    private Room room;
    private final Room[] imageRooms = new Room[IMAGES];
    private final Moment[] imageMoments = new Moment[IMAGES];
    private final Moment now = new Moment();
    private final Moment before = new Moment();
    private final Moment trial = new Moment();
    private final Past past = new Past();
    private final Tray[] trays = new Tray[TRAYS];
    private final Steps steps = new Steps();
    private final Reach reach = new Reach();
    private final Contest contest = new Contest();
    /** By temper: the wall behind a night that is tried. */
    private final int[] wallsThen = new int[TEMPERS];

    public RoseWall() {
        for (int i = 0; i < pool.length; i++) {
            pool[i] = new Room();
        }
        for (int i = 0; i < IMAGES; i++) {
            imageMoments[i] = new Moment();
        }
        for (int i = 0; i < TRAYS; i++) {
            trays[i] = new Tray();
        }
        room = pool[0];
        now.begin(room);
        steps.take(room);
    }

    // ---- the room

    public int feed(int a, int b, int c, int d, int e) {
        if (taped + 20 > TEXT) {
            return NOT_NOW;
        }
        tapeFour(a);
        tapeFour(b);
        tapeFour(c);
        tapeFour(d);
        tapeFour(e);
        return taped;
    }

    private void tapeFour(int four) {
        for (int shift = 24; shift >= 0 && taped < TEXT; shift -= 8) {
            tape[taped++] = (byte) (four >> shift);
        }
    }

    public int room(int n) {
        if (n < 0 || n > taped) {
            return BAD_NUMBER;
        }
        taped = 0;
        Room told = spareRoom();
        tokens.begin(tape, n);
        if (!reader.readRoom(tokens, told)) {
            return FAULTY - tokens.fault;
        }
        room = told;
        now.begin(room);
        past.clear();
        steps.take(room);
        return room.lines;
    }

    private Room spareRoom() {
        for (int i = 1; i < pool.length; i++) {
            if (pool[i] != room && pool[i] != imageRooms[0] && pool[i] != imageRooms[1]) {
                return pool[i];
            }
        }
        return pool[0];
    }

    public int fault(int what) {
        switch (what) {
            case 0: return tokens.fault;
            case 1: return tokens.faultPlace;
            default: return NONE;
        }
    }

    public int rose(int c, int what) {
        if (!room.hasRose(c) || what < 0 || what > 4) {
            return NO_SUCH;
        }
        switch (what) {
            case 0: return room.kinds[c];
            case 1: return now.wall >> c & 1;
            case 2: return Integer.bitCount(now.wall & room.near[c]);
            default: return steps.pass(now.place(), what - 3, now.temper) >> c & 1;
        }
    }

    public int tenant(int t, int what) {
        if (!room.hasTenant(t) || what < 0 || what > 3) {
            return NO_SUCH;
        }
        switch (what) {
            case 0: return room.patience[t];
            case 1: return now.who == t ? 1 : 0;
            default: return steps.isGoing(now.wall, t, what - 2) ? 1 : 0;
        }
    }

    // ---- deeds

    public int night(int blind) {
        int why = doneAlone(blind, 0);
        return why != 0 ? WHY_NOT - why : now.wall;
    }

    public int nights(int n, int blind) {
        if (n < 1 || n > 99) {
            return BAD_NUMBER;
        }
        if (!isBlind(blind)) {
            return WHY_NOT - 1;
        }
        past.keep(now);
        int went = now.who == NONE ? n : 0;
        for (int i = 1; i <= n; i++) {
            passNight(now, blind);
            if (went == 0 && now.who == NONE) {
                went = i;
            }
        }
        return went == 0 ? n : went;
    }

    public int let(int t) {
        int why = doneAlone(t, DEED_LET);
        return why != 0 ? WHY_NOT - why : Integer.bitCount(now.wall);
    }

    public int turn(int c) {
        int why = doneAlone(c, DEED_TURN);
        return why != 0 ? WHY_NOT - why : now.wall >> c & 1;
    }

    public int temper(int n) {
        int why = doneAlone(n, DEED_TEMPER);
        return why != 0 ? WHY_NOT - why : before.temper;
    }

    public int undo(int n) {
        if (n < 1 || n > past.size) {
            return BAD_NUMBER;
        }
        past.bringBack(n, now);
        return past.size;
    }

    public int judge(int tray, int what) {
        if (!isTray(tray) || what < 0 || what > 3) {
            return NO_SUCH;
        }
        if (trays[tray].missing) {
            return MISSING;
        }
        trial.copy(now);
        int done = doTray(trays[tray], trial);
        boolean all = done == trays[tray].size;
        switch (what) {
            case 0: return all ? NONE : done;
            case 1: return all ? 0 : doDeed(trial, trays[tray].at(done));
            case 2: return trial.wall;
            default: return trial.who;
        }
    }

    public int perform(int tray) {
        if (!isTray(tray)) {
            return NO_SUCH;
        }
        if (trays[tray].missing) {
            return MISSING;
        }
        before.copy(now);
        int done = doTray(trays[tray], now);
        if (done > 0) {
            past.keep(before);
        }
        return done;
    }

    public int season(int seed, int times) {
        if (times < 1 || times > 40) {
            return BAD_NUMBER;
        }
        before.copy(now);
        int x = seed;
        int done = 0;
        for (int i = 0; i < times; i++) {
            x = drawn(x);
            int sort = (x >>> 16) % 6;
            x = drawn(x);
            if (doDeed(now, seasonDeed(sort, x >>> 16)) == 0) {
                done++;
            }
        }
        if (done > 0) {
            past.keep(before);
        }
        return done;
    }

    private static int drawn(int x) {
        return 1103515245 * x + 12345;
    }

    private static int seasonDeed(int sort, int draw) {
        switch (sort) {
            case 3: return DEED_LET + draw % TENANTS;
            case 4: return DEED_TURN + draw % ROSES;
            case 5: return DEED_TEMPER + draw % TEMPERS;
            default: return draw % 2;
        }
    }

    /** One deed as a call of its own, that can be undone; 0, or why it can't be. */
    private int doneAlone(int v, int first) {
        if (v < 0 || v > 9) {
            return 1;
        }
        before.copy(now);
        int why = doDeed(now, first + v);
        if (why == 0) {
            past.keep(before);
        }
        return why;
    }

    /** How many deeds were done till one couldn't be. */
    private int doTray(Tray tray, Moment moment) {
        int done = 0;
        while (done < tray.size && doDeed(moment, tray.at(done)) == 0) {
            done++;
        }
        return done;
    }

    /** 0 if it is done, or why it can't be. */
    private int doDeed(Moment moment, long deed) {
        if (deed < 0 || deed >= DEED_TEMPER + TEMPERS) {
            return 1;
        }
        int v = (int) deed % 10;
        switch ((int) deed / 10 * 10) {
            case DEED_LET:
                return doLet(moment, v);
            case DEED_TURN:
                if (!room.hasRose(v)) {
                    return 1;
                }
                moment.wall ^= 1 << v;
                return 0;
            case DEED_TEMPER:
                moment.temper = v;
                return 0;
            default:
                if (!isBlind(v)) {
                    return 1;
                }
                passNight(moment, v);
                return 0;
        }
    }

    private int doLet(Moment moment, int t) {
        if (!room.hasTenant(t)) {
            return 1;
        }
        if (moment.who != NONE) {
            return 2;
        }
        moment.who = t;
        return 0;
    }

    private void passNight(Moment moment, int blind) {
        moment.goTo(steps.pass(moment.place(), blind, moment.temper));
        moment.nights++;
    }

    private static boolean isBlind(int blind) {
        return blind == 0 || blind == 1;
    }

    // ---- how it goes on

    public int lies(int n, int blind) {
        if (n < 0 || n > 99999 || !isBlind(blind)) {
            return BAD_NUMBER;
        }
        int tail = reach.walk(steps, here(), blind);
        return reach.placeBehind(n, tail) & WALL_BITS;
    }

    public int round(int blind, int what) {
        if (what < 0 || what > 3) {
            return NO_SUCH;
        }
        if (!isBlind(blind)) {
            return BAD_NUMBER;
        }
        int tail = reach.walk(steps, here(), blind);
        switch (what) {
            case 0: return tail;
            case 1: return reach.size - tail;
            case 2: return reach.mostTurned(tail);
            default: return now.who == NONE ? NONE : reach.firstEmpty();
        }
    }

    /** Where all stands now, for questions of what can come: their nights are of the temper now. */
    private int here() {
        steps.tune(now.temper);
        return now.place();
    }

    // ---- who is in

    public int stays() {
        if (now.who == NONE) {
            return NOT_NOW;
        }
        reach.explore(steps, here(), Reach.INSIDE);
        contest.settle(reach, false);
        int level = contest.level(0, Contest.TENANT);
        return level == NONE ? NONE : level - 1;
    }

    public int stayBy(int i) {
        if (i < 0 || i > 99) {
            return BAD_NUMBER;
        }
        if (now.who == NONE) {
            return NOT_NOW;
        }
        reach.explore(steps, here(), Reach.INSIDE);
        contest.settle(reach, false);
        return contest.stayBlind(reach, i);
    }

    public int out() {
        if (now.who == NONE) {
            return NOT_NOW;
        }
        return reach.depth(reach.explore(steps, here(), Reach.EMPTY));
    }

    public int outBy(int i) {
        if (i < 0) {
            return BAD_NUMBER;
        }
        if (now.who == NONE) {
            return NOT_NOW;
        }
        return reach.blindTo(reach.explore(steps, here(), Reach.EMPTY), i);
    }

    public int forces() {
        if (now.who == NONE) {
            return NOT_NOW;
        }
        reach.explore(steps, here(), Reach.INSIDE);
        contest.settle(reach, true);
        return contest.level(0, Contest.LANDLADY);
    }

    public int minds() {
        if (now.who == NONE) {
            return NOT_NOW;
        }
        reach.explore(steps, here(), Reach.INSIDE);
        contest.settle(reach, true);
        return contest.forcingBlind(reach);
    }

    // ---- walls

    public int soonest(int wall) {
        if (!room.hasWall(wall)) {
            return BAD_NUMBER;
        }
        return reach.depth(reach.explore(steps, here(), wall));
    }

    public int way(int wall, int i) {
        if (!room.hasWall(wall) || i < 0) {
            return BAD_NUMBER;
        }
        return reach.blindTo(reach.explore(steps, here(), wall), i);
    }

    public int toFace() {
        if (room.face == 0) {
            return NONE;
        }
        return reach.depth(reach.explore(steps, here(), room.face));
    }

    public int walls() {
        reach.explore(steps, here(), Reach.ALL);
        return reach.differentWalls();
    }

    public int parents(int wall, int blind, int t) {
        if (t != NONE && !room.hasTenant(t)) {
            return NO_SUCH;
        }
        if (!room.hasWall(wall) || !isBlind(blind)) {
            return BAD_NUMBER;
        }
        steps.tune(now.temper);
        return steps.comingTo(wall, blind, t);
    }

    public int orphans(int blind, int t) {
        if (t != NONE && !room.hasTenant(t)) {
            return NO_SUCH;
        }
        if (!isBlind(blind)) {
            return BAD_NUMBER;
        }
        steps.tune(now.temper);
        return steps.comingOfNone(blind, t);
    }

    public int still(int blind, int t) {
        if (t != NONE && !room.hasTenant(t)) {
            return NO_SUCH;
        }
        if (!isBlind(blind)) {
            return BAD_NUMBER;
        }
        steps.tune(now.temper);
        return steps.stayingSame(blind, t);
    }

    public int rows(int wall, int n) {
        if (!room.hasWall(wall) || n < 0 || n > 20) {
            return BAD_NUMBER;
        }
        return reach.rowsTo(steps, here(), wall, n);
    }

    // ---- seen

    public int seen(int tray) {
        int refused = refusedSeen(tray);
        return refused != 0 ? refused : rowsSeen(trays[tray], here(), 0);
    }

    public int seenBy(int tray, int i) {
        int refused = refusedSeen(tray);
        if (refused != 0) {
            return refused;
        }
        if (i < 0) {
            return BAD_NUMBER;
        }
        int place = here();
        if (i >= trays[tray].size || rowsSeen(trays[tray], place, 0) == 0) {
            return NONE;
        }
        int blind = NONE;
        for (int k = 0; k <= i; k++) {
            blind = isFirstBlind(trays[tray], place, k) ? 0 : 1;
            place = steps.next(place, blind);
        }
        return blind;
    }

    private boolean isFirstBlind(Tray tray, int place, int k) {
        int then = steps.next(place, 0);
        return tray.fits(k, then & WALL_BITS) && rowsSeen(tray, then, k + 1) > 0;
    }

    public int whose(int tray) {
        int refused = refusedSeen(tray);
        if (refused != 0) {
            return refused;
        }
        steps.tune(now.temper);
        int set = rowsSeen(trays[tray], placeOf(now.wall, NONE), 0) > 0 ? 1 << 9 : 0;
        for (int t = 0; t < room.tenants; t++) {
            if (rowsSeen(trays[tray], placeOf(now.wall, t), 0) > 0) {
                set |= 1 << t;
            }
        }
        return set;
    }

    public int tempers(int tray, int blinds) {
        int refused = refusedTempers(tray, blinds);
        return refused != 0 ? refused : tempersSeen(trays[tray], blinds);
    }

    public int attempt(int tray, int blinds) {
        int refused = refusedTempers(tray, blinds);
        if (refused != 0) {
            return refused;
        }
        int set = tempersSeen(trays[tray], blinds);
        if (set == 0) {
            return NONE;
        }
        return mostAlike(set, 1) < mostAlike(set, 0) ? 1 : 0;
    }

    private int refusedSeen(int tray) {
        if (!isTray(tray)) {
            return NO_SUCH;
        }
        if (trays[tray].missing) {
            return MISSING;
        }
        if (trays[tray].size < 1 || trays[tray].size > 10) {
            return TOO_MANY;
        }
        for (int i = 0; i < trays[tray].size; i++) {
            long v = trays[tray].at(i);
            if (v < NONE || v > room.fullWall()) {
                return BAD_NUMBER;
            }
        }
        return 0;
    }

    private int refusedTempers(int tray, int blinds) {
        int refused = refusedSeen(tray);
        if (refused != 0) {
            return refused;
        }
        return blinds < 0 || blinds >= 1 << trays[tray].size ? BAD_NUMBER : 0;
    }

    /** By how many rows the tray's walls from its number i on are seen from a place; at most ten deep. */
    private int rowsSeen(Tray tray, int place, int i) {
        if (i >= tray.size || i > 10) {
            return 1;
        }
        int sum = 0;
        for (int blind = 0; blind <= 1; blind++) {
            int then = steps.next(place, blind);
            if (tray.fits(i, then & WALL_BITS)) {
                sum += rowsSeen(tray, then, i + 1);
            }
        }
        return sum;
    }

    private int tempersSeen(Tray tray, int blinds) {
        int set = 0;
        for (int n = 0; n < TEMPERS; n++) {
            if (isTemperSeen(tray, blinds, n)) {
                set |= 1 << n;
            }
        }
        return set;
    }

    private boolean isTemperSeen(Tray tray, int blinds, int n) {
        int place = now.place();
        for (int i = 0; i < tray.size; i++) {
            place = steps.pass(place, blinds >> i & 1, n);
            if (!tray.fits(i, place & WALL_BITS)) {
                return false;
            }
        }
        return true;
    }

    /** The greatest number of these tempers by which the wall is the same behind one night. */
    private int mostAlike(int set, int blind) {
        for (int n = 0; n < TEMPERS; n++) {
            wallsThen[n] = (set >> n & 1) != 0 ? steps.pass(now.place(), blind, n) & WALL_BITS : NONE;
        }
        int most = 0;
        for (int n = 0; n < TEMPERS; n++) {
            if (wallsThen[n] != NONE) {
                most = Math.max(most, alike(wallsThen[n]));
            }
        }
        return most;
    }

    private int alike(int wall) {
        int alike = 0;
        for (int n = 0; n < TEMPERS; n++) {
            if (wallsThen[n] == wall) {
                alike++;
            }
        }
        return alike;
    }

    // ---- chances

    public int chance(int n, int what) {
        if (what < 0 || what > 1) {
            return NO_SUCH;
        }
        if (n < 0 || n > 8) {
            return BAD_NUMBER;
        }
        if (now.who == NONE) {
            return NOT_NOW;
        }
        int above = share(here(), n);
        int below = powerOfTen(n);
        int common = commonDivisor(above, below);
        return common < 1 ? NONE : (what == 0 ? above : below) / common;
    }

    public int gone(int m) {
        if (m < 0 || m > 100) {
            return BAD_NUMBER;
        }
        if (now.who == NONE) {
            return NOT_NOW;
        }
        int place = here();
        for (int n = 0; n <= 8; n++) {
            if (share(place, n) * 100L < (long) m * powerOfTen(n)) {
                return n;
            }
        }
        return NONE;
    }

    public int best(int n) {
        if (n < 0 || n > 8) {
            return BAD_NUMBER;
        }
        steps.tune(now.temper);
        int best = NONE;
        int most = -1;
        for (int t = 0; t < room.tenants; t++) {
            int share = share(placeOf(now.wall, t), n);
            if (share > most) {
                most = share;
                best = t;
            }
        }
        return best;
    }

    /** How likely who is in still is behind n nights, in tens to the n; at most eight deep. */
    private int share(int place, int n) {
        if (place >> WHO == NOBODY || n > 8) {
            return 0;
        }
        if (n <= 0) {
            return 1;
        }
        int sum = 0;
        if (room.open > 0) {
            sum += room.open * share(steps.next(place, 1), n - 1);
        }
        if (room.open < 10) {
            sum += (10 - room.open) * share(steps.next(place, 0), n - 1);
        }
        return sum;
    }

    private static int powerOfTen(int n) {
        int power = 1;
        for (int i = 0; i < n && i < 9; i++) {
            power *= 10;
        }
        return power;
    }

    private static int commonDivisor(int a, int b) {
        int greater = a;
        int less = b;
        for (int i = 0; i < 100 && less != 0; i++) {
            int rest = greater % less;
            greater = less;
            less = rest;
        }
        return greater;
    }

    // ---- trays, images

    public int numbers(int tray, int sort, int n) {
        if (!isTray(tray) || sort < 0 || sort > 3) {
            return NO_SUCH;
        }
        if (n < 0 || n > TRAY_PLACES) {
            return BAD_NUMBER;
        }
        trays[tray].begin(sort, n);
        return 0;
    }

    public long write(int tray, int i, long v) {
        if (!isTray(tray)) {
            return NO_SUCH;
        }
        if (trays[tray].missing) {
            return MISSING;
        }
        if (i < 0 || i >= trays[tray].size) {
            return NO_PLACE;
        }
        trays[tray].put(i, v);
        return trays[tray].at(i);
    }

    public int lists(int tray, int blind) {
        if (!isTray(tray)) {
            return NO_SUCH;
        }
        if (trays[tray].missing) {
            return MISSING;
        }
        if (!isBlind(blind)) {
            return BAD_NUMBER;
        }
        int place = here();
        for (int i = 0; i < trays[tray].size; i++) {
            place = steps.next(place, blind);
            trays[tray].put(i, place & WALL_BITS);
        }
        return trays[tray].size;
    }

    private static boolean isTray(int tray) {
        return tray >= 0 && tray < TRAYS;
    }

    public int image(int i) {
        if (i < 0 || i >= IMAGES) {
            return NO_SUCH;
        }
        imageRooms[i] = room;
        imageMoments[i].copy(now);
        return 0;
    }

    public int restore(int i) {
        if (i < 0 || i >= IMAGES) {
            return NO_SUCH;
        }
        if (imageRooms[i] == null) {
            return NOT_NOW;
        }
        room = imageRooms[i];
        now.copy(imageMoments[i]);
        past.clear();
        steps.take(room);
        return 0;
    }

    public int count(int what) {
        switch (what) {
            case 0: return room.roses;
            case 1: return room.tenants;
            case 2: return now.wall;
            case 3: return now.who;
            case 4: return Integer.bitCount(now.wall);
            case 5: return room.face;
            case 6: return now.temper;
            case 7: return now.nights;
            case 8: return past.size;
            case 9: return taped;
            case 10: return room.lines;
            default: return NONE;
        }
    }

    private static int placeOf(int wall, int who) {
        return wall & WALL_BITS | (who < 0 || who >= TENANTS ? NOBODY : who) << WHO;
    }

    // ---- what a room is

    /** What a text tells; never changed once it is read, so images can share it. */
    private static final class Room {
        int rows;
        int columns;
        int roses;
        int tenants;
        int who;
        int wall;
        int face;
        int open;
        int temper;
        int lines;
        final int[] kinds = new int[ROSES];
        /** Of each rose its neighbours, as bits. */
        final int[] near = new int[ROSES];
        final int[] patience = new int[TENANTS];
        final Law turns = new Law();
        final Law goes = new Law();

        Room() {
            clear();
        }

        void clear() {
            tenants = 0;
            who = NONE;
            wall = 0;
            face = 0;
            open = 5;
            temper = 0;
            lines = 0;
            Arrays.fill(kinds, 0);
            turns.clear();
            goes.clear();
            shape(1, 1);
        }

        void shape(int rowsTold, int columnsTold) {
            rows = rowsTold;
            columns = columnsTold;
            roses = rows * columns;
            for (int c = 0; c < roses && c < ROSES; c++) {
                near[c] = neighbours(c);
            }
        }

        private int neighbours(int c) {
            int set = 0;
            for (int k = 0; k < roses && columns > 0; k++) {
                int down = Math.abs(k / columns - c / columns);
                int along = Math.abs(k % columns - c % columns);
                if (k != c && down <= 1 && along <= 1) {
                    set |= 1 << k;
                }
            }
            return set;
        }

        boolean hasRose(int c) {
            return c >= 0 && c < roses && c < ROSES;
        }

        boolean hasTenant(int t) {
            return t >= 0 && t < tenants && t < TENANTS;
        }

        int fullWall() {
            return (1 << roses) - 1;
        }

        boolean hasWall(int told) {
            return told >= 0 && told <= fullWall();
        }
    }

    /** A truth of the laws' language, operators behind what they join: numbers, and ~kind of other tokens. */
    private static final class Law {
        private static final int MOST = 1000000;
        /** Six within one another, each with two half-worked-out sides, stay far below it. */
        private static final int DEPTH = 40;

        private final int[] code = new int[TEXT];
        private final int[] stack = new int[DEPTH];
        private int size;

        void clear() {
            size = 0;
        }

        void add(int item) {
            if (size < TEXT) {
                code[size++] = item;
            }
        }

        boolean isTold() {
            return size > 0;
        }

        /** Whether it holds, the words' values told in the order of their kinds. */
        boolean holds(int[] scene) {
            int top = 0;
            for (int i = 0; i < size && i < TEXT; i++) {
                int item = code[i];
                if (item >= 0 || ~item < scene.length) {
                    if (top < DEPTH) {
                        stack[top++] = item >= 0 ? item : scene[~item];
                    }
                } else if (~item == Tokens.NOT) {
                    if (top > 0) {
                        stack[top - 1] = 1 - stack[top - 1];
                    }
                } else if (top > 1) {
                    top--;
                    stack[top - 1] = joined(~item, stack[top - 1], stack[top]);
                }
            }
            return top > 0 && stack[top - 1] != 0;
        }

        private static int joined(int sign, long a, long b) {
            long value;
            switch (sign) {
                case '+':
                    value = a + b;
                    break;
                case '-':
                    value = a - b;
                    break;
                case '*':
                    value = a * b;
                    break;
                case '=': return a == b ? 1 : 0;
                case '<': return a < b ? 1 : 0;
                case '>': return a > b ? 1 : 0;
                case Tokens.AND: return (int) (a & b);
                default: return (int) (a | b);
            }
            return value > MOST ? MOST : value < -MOST ? -MOST : (int) value;
        }
    }

    // ---- how a text is read

    /** The tokens of a text, one at a time, and its fault. */
    private static final class Tokens {
        /** The words that have a value in a law come first: their kinds are places in its scene. */
        static final int LIGHT = 0;
        static final int TENANT = 1;
        static final int CELL = 2;
        static final int KIND = 3;
        static final int NEAR = 4;
        static final int TURNED = 5;
        static final int TEMPER = 6;
        static final int ALL = 7;
        static final int FACE = 8;
        static final int PATIENCE = 9;
        static final int VALUES = 10;
        static final int WALL = 10;
        static final int ROW = 11;
        static final int IN = 12;
        static final int OPEN = 13;
        static final int TURNS = 14;
        static final int GOES = 15;
        static final int OR = 16;
        static final int AND = 17;
        static final int NOT = 18;
        static final int STRANGE = 19;
        static final int NUMBER = 20;
        static final int END = 21;
        static final int BAD = 22;

        static final int CANT_BEGIN = 1;
        static final int CANT_STAND = 2;
        static final int OUT_OF_BOUNDS = 3;
        static final int BEYOND = 4;

        private static final String SIGNS = ";:+-*()[]=<>";

        private byte[] text;
        private int length;
        private int start;
        private int end;
        private final int[] kinds = new int[TEXT + 1];
        private final int[] values = new int[TEXT + 1];
        private final int[] starts = new int[TEXT + 1];
        private int size;
        private int at;
        /** Of the token that is looked at: a kind of the above, or its sign. */
        int kind;
        int value;
        int fault;
        int faultPlace = NONE;

        /** Splits the first n bytes into tokens, all of them ahead: the readers' calls stay few. */
        void begin(byte[] from, int n) {
            text = from;
            length = Math.max(0, Math.min(n, from.length));
            fault = 0;
            faultPlace = NONE;
            size = 0;
            end = 0;
            int split = NUMBER;
            for (int i = 0; i <= TEXT && split != END; i++) {
                split = splitNext();
                kinds[i] = split;
                starts[i] = start;
                size = i + 1;
                values[i] = split == NUMBER ? readNumber() : 0;
            }
            at = NONE;
            advance();
        }

        void advance() {
            if (at + 1 < size) {
                at++;
                kind = kinds[at];
                value = values[at];
            }
        }

        private int splitNext() {
            start = end;
            while (start < length && (text[start] == ' ' || text[start] == '\n')) {
                start++;
            }
            end = start;
            if (start >= length) {
                return END;
            }
            int sign = text[start];
            if (isDigit(sign)) {
                while (end < length && isDigit(text[end])) {
                    end++;
                }
                return end - start <= 3 ? NUMBER : BAD;
            }
            if (isLetter(sign)) {
                while (end < length && isLetter(text[end])) {
                    end++;
                }
                return kindOfWord();
            }
            end = start + 1;
            return sign > 0 && SIGNS.indexOf((char) sign) >= 0 ? sign : BAD;
        }

        private int readNumber() {
            int told = 0;
            for (int i = start; i < end && i < length; i++) {
                told = told * 10 + text[i] - '0';
            }
            return told;
        }

        private int kindOfWord() {
            switch (end - start) {
                case 2: return isWord("or") ? OR : isWord("in") ? IN : STRANGE;
                case 3: return isWord("and") ? AND : isWord("not") ? NOT : isWord("row") ? ROW : isWord("all") ? ALL : STRANGE;
                case 4: return kindOfFour();
                case 5: return isWord("light") ? LIGHT : isWord("turns") ? TURNS : STRANGE;
                case 6: return isWord("tenant") ? TENANT : isWord("turned") ? TURNED : isWord("temper") ? TEMPER : STRANGE;
                case 8: return isWord("patience") ? PATIENCE : STRANGE;
                default: return STRANGE;
            }
        }

        private int kindOfFour() {
            switch (text[start]) {
                case 'c': return isWord("cell") ? CELL : STRANGE;
                case 'f': return isWord("face") ? FACE : STRANGE;
                case 'g': return isWord("goes") ? GOES : STRANGE;
                case 'k': return isWord("kind") ? KIND : STRANGE;
                case 'n': return isWord("near") ? NEAR : STRANGE;
                case 'o': return isWord("open") ? OPEN : STRANGE;
                case 'w': return isWord("wall") ? WALL : STRANGE;
                default: return STRANGE;
            }
        }

        /** Of a word as long as the token. */
        private boolean isWord(String word) {
            for (int i = 0; i < word.length() && start + i < length; i++) {
                if (text[start + i] != word.charAt(i)) {
                    return false;
                }
            }
            return true;
        }

        private static boolean isDigit(int sign) {
            return sign >= '0' && sign <= '9';
        }

        private static boolean isLetter(int sign) {
            return sign >= 'a' && sign <= 'z';
        }

        /** Goes on behind a token that must be of a kind. */
        boolean pass(int due) {
            if (kind != due) {
                return refuse(CANT_STAND);
            }
            advance();
            return true;
        }

        /** Goes on behind a number within bounds; NONE if there is none such. */
        int passNumber(int low, int high) {
            if (kind != NUMBER) {
                refuse(CANT_STAND);
                return NONE;
            }
            if (value < low || value > high) {
                refuse(OUT_OF_BOUNDS);
                return NONE;
            }
            int told = value;
            advance();
            return told;
        }

        /** The fault is at this token; always false, so that a reader can answer it. */
        boolean refuse(int why) {
            fault = kind == BAD ? CANT_BEGIN : why;
            faultPlace = at < 0 ? 0 : starts[at];
            return false;
        }
    }

    /** Reads a room, line by line; each part answers whether it could be read. */
    private static final class RoomReader {
        private final LawReader laws = new LawReader();
        private Tokens tokens;
        private Room room;

        boolean readRoom(Tokens from, Room into) {
            tokens = from;
            room = into;
            room.clear();
            if (!readWall()) {
                return false;
            }
            room.lines = 1;
            for (int i = 0; i < TEXT && tokens.kind != Tokens.END; i++) {
                if (!readLine() || !tokens.pass(';')) {
                    return false;
                }
                room.lines++;
            }
            return true;
        }

        private boolean readWall() {
            if (!tokens.pass(Tokens.WALL)) {
                return false;
            }
            int rows = tokens.passNumber(1, 3);
            int columns = rows == NONE ? NONE : tokens.passNumber(1, 3);
            if (columns == NONE) {
                return false;
            }
            room.shape(rows, columns);
            return tokens.pass(';');
        }

        private boolean readLine() {
            int kind = tokens.kind;
            if (kind == Tokens.TENANT && room.tenants >= TENANTS) {
                return tokens.refuse(Tokens.BEYOND);
            }
            if (!isLine(kind)) {
                return tokens.refuse(Tokens.CANT_STAND);
            }
            tokens.advance();
            switch (kind) {
                case Tokens.ROW: return readKinds();
                case Tokens.TENANT: return readTenant();
                case Tokens.FACE: return readFace();
                case Tokens.TURNS: return tokens.pass(':') && laws.readLaw(tokens, room.turns, true);
                case Tokens.GOES: return tokens.pass(':') && laws.readLaw(tokens, room.goes, false);
                default: return readOne(kind);
            }
        }

        private static boolean isLine(int kind) {
            switch (kind) {
                case Tokens.ROW:
                case Tokens.TENANT:
                case Tokens.IN:
                case Tokens.TURNED:
                case Tokens.FACE:
                case Tokens.OPEN:
                case Tokens.TEMPER:
                case Tokens.TURNS:
                case Tokens.GOES:
                    return true;
                default:
                    return false;
            }
        }

        private boolean readKinds() {
            int row = tokens.passNumber(0, room.rows - 1);
            if (row == NONE) {
                return false;
            }
            for (int i = 0; i < room.columns; i++) {
                int kind = tokens.passNumber(0, 9);
                int c = row * room.columns + i;
                if (kind == NONE || !room.hasRose(c)) {
                    return false;
                }
                room.kinds[c] = kind;
            }
            return true;
        }

        private boolean readTenant() {
            int patience = 9;
            for (int i = 0; i < TEXT && tokens.kind == Tokens.PATIENCE; i++) {
                tokens.advance();
                patience = tokens.passNumber(0, 9);
                if (patience == NONE) {
                    return false;
                }
            }
            if (room.tenants < TENANTS) {
                room.patience[room.tenants++] = patience;
            }
            return true;
        }

        private boolean readFace() {
            int set = 0;
            for (int i = 0; i < TEXT && (i == 0 || tokens.kind == Tokens.NUMBER); i++) {
                int c = tokens.passNumber(0, room.roses - 1);
                if (c == NONE) {
                    return false;
                }
                set |= 1 << c;
            }
            room.face = set;
            return true;
        }

        private boolean readOne(int kind) {
            int told = tokens.passNumber(0, highest(kind));
            if (told == NONE) {
                return false;
            }
            switch (kind) {
                case Tokens.IN:
                    room.who = told;
                    return true;
                case Tokens.TURNED:
                    room.wall |= 1 << told;
                    return true;
                case Tokens.OPEN:
                    room.open = told;
                    return true;
                default:
                    room.temper = told;
                    return true;
            }
        }

        private int highest(int kind) {
            switch (kind) {
                case Tokens.IN: return room.tenants - 1;
                case Tokens.TURNED: return room.roses - 1;
                case Tokens.OPEN: return 10;
                default: return 9;
            }
        }
    }

    /** Reads one law into the order in which it is worked out; within: of how many not [ ( it is inside. */
    private static final class LawReader {
        private static final int WITHIN = 6;

        private Tokens tokens;
        private Law law;
        private boolean ofTurns;

        boolean readLaw(Tokens from, Law into, boolean turns) {
            tokens = from;
            law = into;
            ofTurns = turns;
            law.clear();
            return readTruth(0);
        }

        private boolean readTruth(int within) {
            if (!readBoth(within)) {
                return false;
            }
            for (int i = 0; i < TEXT && tokens.kind == Tokens.OR; i++) {
                tokens.advance();
                if (!readBoth(within)) {
                    return false;
                }
                law.add(~Tokens.OR);
            }
            return true;
        }

        private boolean readBoth(int within) {
            if (!readUnit(within)) {
                return false;
            }
            for (int i = 0; i < TEXT && tokens.kind == Tokens.AND; i++) {
                tokens.advance();
                if (!readUnit(within)) {
                    return false;
                }
                law.add(~Tokens.AND);
            }
            return true;
        }

        private boolean readUnit(int within) {
            if (tokens.kind == Tokens.NOT) {
                if (!enter(within) || !readUnit(within + 1)) {
                    return false;
                }
                law.add(~Tokens.NOT);
                return true;
            }
            if (tokens.kind == '[') {
                return enter(within) && readTruth(within + 1) && tokens.pass(']');
            }
            if (!readSum(within)) {
                return false;
            }
            int sign = tokens.kind;
            if (sign != '=' && sign != '<' && sign != '>') {
                return tokens.refuse(Tokens.CANT_STAND);
            }
            tokens.advance();
            if (!readSum(within)) {
                return false;
            }
            law.add(~sign);
            return true;
        }

        private boolean enter(int within) {
            if (within >= WITHIN) {
                return tokens.refuse(Tokens.BEYOND);
            }
            tokens.advance();
            return true;
        }

        private boolean readSum(int within) {
            if (!readTerm(within)) {
                return false;
            }
            for (int i = 0; i < TEXT && (tokens.kind == '+' || tokens.kind == '-'); i++) {
                int sign = tokens.kind;
                tokens.advance();
                if (!readTerm(within)) {
                    return false;
                }
                law.add(~sign);
            }
            return true;
        }

        private boolean readTerm(int within) {
            if (!readAtom(within)) {
                return false;
            }
            for (int i = 0; i < TEXT && tokens.kind == '*'; i++) {
                tokens.advance();
                if (!readAtom(within)) {
                    return false;
                }
                law.add(~'*');
            }
            return true;
        }

        private boolean readAtom(int within) {
            int kind = tokens.kind;
            if (kind == '(') {
                return enter(within) && readSum(within + 1) && tokens.pass(')');
            }
            if (kind == Tokens.NUMBER) {
                law.add(tokens.value);
            } else if (isValue(kind)) {
                law.add(~kind);
            } else {
                return tokens.refuse(Tokens.CANT_STAND);
            }
            tokens.advance();
            return true;
        }

        private boolean isValue(int kind) {
            if (kind <= Tokens.TENANT) {
                return true;
            }
            return ofTurns ? kind <= Tokens.TEMPER : kind >= Tokens.ALL && kind <= Tokens.PATIENCE;
        }
    }

    // ---- what a call can bring back

    /** All that deeds can change. */
    private static final class Moment {
        int wall;
        int who = NONE;
        int temper;
        int nights;

        void begin(Room room) {
            wall = room.wall;
            who = room.who;
            temper = room.temper;
            nights = 0;
        }

        void copy(Moment other) {
            wall = other.wall;
            who = other.who;
            temper = other.temper;
            nights = other.nights;
        }

        int place() {
            return placeOf(wall, who);
        }

        void goTo(int place) {
            wall = place & WALL_BITS;
            who = place >> WHO == NOBODY ? NONE : place >> WHO;
        }
    }

    /** What was ahead of each of the latest calls that did some deed. */
    private static final class Past {
        private final Moment[] kept = new Moment[CALLS_BACK];
        private int next;
        int size;

        Past() {
            for (int i = 0; i < CALLS_BACK; i++) {
                kept[i] = new Moment();
            }
        }

        void clear() {
            size = 0;
        }

        void keep(Moment moment) {
            kept[next].copy(moment);
            next = (next + 1) % CALLS_BACK;
            size = Math.min(size + 1, CALLS_BACK);
        }

        void bringBack(int n, Moment into) {
            next = Math.floorMod(next - n, CALLS_BACK);
            size -= n;
            into.copy(kept[next]);
        }
    }

    /** Numbers of a sort. */
    private static final class Tray {
        private final long[] values = new long[TRAY_PLACES];
        private int sort;
        int size;
        boolean missing = true;

        void begin(int sortTold, int n) {
            sort = sortTold;
            size = Math.max(0, Math.min(n, TRAY_PLACES));
            missing = false;
            Arrays.fill(values, 0);
        }

        void put(int i, long v) {
            if (i < 0 || i >= size) {
                return;
            }
            switch (sort) {
                case 0:
                    values[i] = (byte) v;
                    break;
                case 1:
                    values[i] = (short) v;
                    break;
                case 2:
                    values[i] = (int) v;
                    break;
                default:
                    values[i] = v;
                    break;
            }
        }

        long at(int i) {
            return i < 0 || i >= size ? NONE : values[i];
        }

        /** Whether a wall can be what number i tells. */
        boolean fits(int i, int wall) {
            long v = at(i);
            return v == NONE || v == wall;
        }
    }

    // ---- nights

    /** What a night makes of a place; what the laws answered is remembered. */
    private static final class Steps {
        /** Of what is remembered the low half says what is known, the high half what holds. */
        private static final int HELD = 32;

        private Room room;
        private int temper;
        /** By temper, who is in, light, rose: bits by near and turned. */
        private final long[] turning = new long[TEMPERS * SLOTS * 2 * ROSES];
        /** By tenant, light: bits by all and face. */
        private final long[] going = new long[TENANTS * 2];
        private final int[] scene = new int[Tokens.VALUES];
        /** By blind, place: the place then, of the temper tuned to, if it bears the stamp. */
        private final int[] then = new int[2 * PLACES];
        private int stamp;
        private final int[] came = new int[WALL_BITS + 1];

        void take(Room told) {
            room = told;
            Arrays.fill(turning, 0);
            Arrays.fill(going, 0);
            stamp++;
        }

        void tune(int told) {
            if (told != temper) {
                temper = told;
                stamp++;
            }
        }

        /** The place behind a night, of the temper tuned to. */
        int next(int place, int blind) {
            if (place < 0 || place >= PLACES || !isBlind(blind)) {
                return 0;
            }
            int index = blind * PLACES + place;
            if (then[index] >> 12 != stamp) {
                then[index] = stamp << 12 | pass(place, blind, temper);
            }
            return then[index] & 4095;
        }

        /** The place behind a night, of any temper. */
        int pass(int place, int blind, int withTemper) {
            if (room == null || place < 0 || place >= PLACES || !isBlind(blind) || withTemper < 0 || withTemper >= TEMPERS) {
                return 0;
            }
            int wall = place & WALL_BITS;
            int slot = place >> WHO;
            int base = ((withTemper * SLOTS + slot) * 2 + blind) * ROSES;
            int wallThen = 0;
            for (int c = 0; c < ROSES && c < room.roses; c++) {
                int mark = Integer.bitCount(wall & room.near[c]) * 2 + (wall >> c & 1);
                long known = turning[base + c];
                if ((known >> mark & 1) == 0) {
                    known = learnTurning(base + c, mark);
                }
                if ((known >> mark + HELD & 1) != 0) {
                    wallThen |= 1 << c;
                }
            }
            boolean leaves = slot < NOBODY && isGoing(wallThen, slot, blind);
            return wallThen | (leaves ? NOBODY : slot) << WHO;
        }

        private long learnTurning(int index, int mark) {
            if (index < 0 || index >= turning.length) {
                return 0;
            }
            int cell = index % ROSES;
            int rest = index / ROSES;
            int slot = rest / 2 % SLOTS;
            scene[Tokens.LIGHT] = rest % 2;
            scene[Tokens.TENANT] = slot == NOBODY ? 9 : slot;
            scene[Tokens.CELL] = cell;
            scene[Tokens.KIND] = room.kinds[cell];
            scene[Tokens.NEAR] = mark / 2;
            scene[Tokens.TURNED] = mark % 2;
            scene[Tokens.TEMPER] = rest / 2 / SLOTS;
            boolean held = room.turns.isTold() ? room.turns.holds(scene) : mark / 2 >= 1 && mark / 2 <= 3;
            turning[index] |= 1L << mark | (held ? 1L << mark + HELD : 0L);
            return turning[index];
        }

        /** Whether a tenant goes by a wall, if it is in. */
        boolean isGoing(int wall, int t, int blind) {
            if (room == null || !room.hasTenant(t) || !isBlind(blind)) {
                return false;
            }
            int all = Integer.bitCount(wall & WALL_BITS);
            if (!room.goes.isTold()) {
                return all > room.patience[t];
            }
            int mark = all * 2 + (room.face != 0 && wall == room.face ? 1 : 0);
            int index = t * 2 + blind;
            if ((going[index] >> mark & 1) == 0) {
                scene[Tokens.LIGHT] = blind;
                scene[Tokens.TENANT] = t;
                scene[Tokens.ALL] = all;
                scene[Tokens.FACE] = mark % 2;
                scene[Tokens.PATIENCE] = room.patience[t];
                going[index] |= 1L << mark | (room.goes.holds(scene) ? 1L << mark + HELD : 0L);
            }
            return (going[index] >> mark + HELD & 1) != 0;
        }

        int comingTo(int wall, int blind, int t) {
            int sum = 0;
            for (int w = 0; w <= room.fullWall(); w++) {
                if ((next(placeOf(w, t), blind) & WALL_BITS) == wall) {
                    sum++;
                }
            }
            return sum;
        }

        int comingOfNone(int blind, int t) {
            Arrays.fill(came, 0);
            int sum = room.fullWall() + 1;
            for (int w = 0; w <= room.fullWall(); w++) {
                int wall = next(placeOf(w, t), blind) & WALL_BITS;
                if (came[wall] == 0) {
                    came[wall] = 1;
                    sum--;
                }
            }
            return sum;
        }

        int stayingSame(int blind, int t) {
            int sum = 0;
            for (int w = 0; w <= room.fullWall(); w++) {
                if ((next(placeOf(w, t), blind) & WALL_BITS) == w) {
                    sum++;
                }
            }
            return sum;
        }
    }

    /** The places that can come, as nodes numbered as they are found: by fewest nights, then by first blinds. */
    private static final class Reach {
        /** What to look for, in place of a wall. */
        static final int ALL = -1;
        static final int EMPTY = -2;
        /** All, but nothing behind the night in which who is in goes. */
        static final int INSIDE = -3;

        final int[] places = new int[NODES];
        int size;
        /** By node, blind: the node then. */
        final int[] to = new int[2 * NODES];
        /** By node: the one it was found from, and the blind. */
        private final int[] cameBy = new int[NODES];
        /** By place: its node, if the node has that place. */
        private final int[] order = new int[PLACES];
        private final int[] ways = new int[NODES];
        private final int[] waysThen = new int[NODES];

        int nodeOf(int place) {
            if (place < 0 || place >= PLACES) {
                return NONE;
            }
            int node = order[place];
            return node >= 0 && node < size && places[node] == place ? node : NONE;
        }

        private int add(int place, int by) {
            if (size >= NODES || place < 0 || place >= PLACES) {
                return 0;
            }
            places[size] = place;
            cameBy[size] = by;
            order[place] = size;
            return size++;
        }

        /** Finds places from a start on till one is as looked for: its node, or NONE. */
        int explore(Steps steps, int start, int goal) {
            size = 0;
            add(start, NONE);
            if (isGoal(start, goal)) {
                return 0;
            }
            for (int edge = 0; edge < 2 * size && edge < to.length; edge++) {
                int place = places[edge / 2];
                if (goal == INSIDE && place >> WHO == NOBODY) {
                    continue;
                }
                int next = steps.next(place, edge % 2);
                int node = nodeOf(next);
                if (node == NONE) {
                    node = add(next, edge);
                    if (isGoal(next, goal)) {
                        return node;
                    }
                }
                to[edge] = node;
            }
            return NONE;
        }

        private static boolean isGoal(int place, int goal) {
            return goal == EMPTY ? place >> WHO == NOBODY : (place & WALL_BITS) == goal;
        }

        /** How many nights lead to a node (NONE: of none). */
        int depth(int node) {
            if (node < 0 || node >= size) {
                return NONE;
            }
            int nights = 0;
            int edge = cameBy[node];
            while (edge >= 0 && edge < to.length && nights < NODES) {
                nights++;
                edge = cameBy[edge / 2];
            }
            return nights;
        }

        /** The blind of the i-th night that leads to a node; NONE if there are not so many. */
        int blindTo(int node, int i) {
            int nights = depth(node);
            if (i < 0 || i >= nights || node < 0 || node >= NODES) {
                return NONE;
            }
            int back = nights - 1 - i;
            int edge = cameBy[node];
            for (int k = 0; k < back && edge >= 0 && edge < to.length; k++) {
                edge = cameBy[edge / 2];
            }
            return edge < 0 ? NONE : edge % 2;
        }

        /** Finds the places of one blind kept for ever: the node at which they come round. */
        int walk(Steps steps, int start, int blind) {
            size = 0;
            int place = start;
            for (int i = 0; i < NODES && nodeOf(place) == NONE; i++) {
                add(place, NONE);
                place = steps.next(place, blind);
            }
            return Math.max(0, nodeOf(place));
        }

        int placeBehind(int n, int tail) {
            int length = size - tail;
            int node = n < size || length < 1 ? n : tail + (n - tail) % length;
            return node < 0 || node >= size ? 0 : places[node];
        }

        int mostTurned(int tail) {
            int most = 0;
            for (int node = Math.max(0, tail); node < size; node++) {
                most = Math.max(most, Integer.bitCount(places[node] & WALL_BITS));
            }
            return most;
        }

        int firstEmpty() {
            for (int node = 0; node < size; node++) {
                if (places[node] >> WHO == NOBODY) {
                    return node;
                }
            }
            return NONE;
        }

        int differentWalls() {
            int slot = places[0] >> WHO;
            int sum = 0;
            for (int node = 0; node < size; node++) {
                int twin = places[node] & WALL_BITS | slot << WHO;
                if (twin == places[node] || nodeOf(twin) == NONE) {
                    sum++;
                }
            }
            return sum;
        }

        /** By how many rows of n nights the wall comes to be a told one. */
        int rowsTo(Steps steps, int start, int wall, int n) {
            explore(steps, start, ALL);
            Arrays.fill(ways, 0);
            Arrays.fill(waysThen, 0);
            ways[0] = 1;
            for (int i = 0; i < n; i++) {
                spreadWays();
            }
            int sum = 0;
            for (int node = 0; node < size; node++) {
                sum += (places[node] & WALL_BITS) == wall ? ways[node] : 0;
            }
            return sum;
        }

        private void spreadWays() {
            for (int edge = 0; edge < 2 * size; edge++) {
                int many = ways[edge / 2];
                int node = to[edge];
                if (many != 0 && node >= 0 && node < size) {
                    waysThen[node] += many;
                }
            }
            for (int node = 0; node < size; node++) {
                ways[node] = waysThen[node];
                waysThen[node] = 0;
            }
        }
    }

    /** Within how many nights who is in goes for certain, from every node, whoever minds the blind. */
    private static final class Contest {
        static final int LANDLADY = 0;
        static final int TENANT = 1;

        /** By node, whose turn it is. */
        private final int[] levels = new int[2 * NODES];
        /** By node, whose turn it is: how many of its blinds must lead out still. */
        private final int[] left = new int[2 * NODES];
        private final int[] settled = new int[2 * NODES];
        private int size;
        /** By node: the latest edge that leads to it; by edge: the one ahead of it. */
        private final int[] edgeTo = new int[NODES];
        private final int[] edgeAhead = new int[2 * NODES];

        /** Within how many nights it goes from a node, if one is to mind the blind next; NONE: never for certain. */
        int level(int node, int turn) {
            return node < 0 || node >= NODES ? NONE : levels[node * 2 + (turn & 1)];
        }

        /** Works back from where nobody is in; not by turns: the tenant minds the blind always. */
        void settle(Reach reach, boolean byTurns) {
            begin(reach, byTurns);
            for (int i = 0; i < size && i < settled.length; i++) {
                int state = settled[i];
                int turn = byTurns ? 1 - state % 2 : state % 2;
                int edge = edgeTo[state / 2];
                for (int k = 0; k < edgeAhead.length && edge >= 0 && edge < edgeAhead.length; k++) {
                    leadOut(edge / 2 * 2 + turn, levels[state] + 1);
                    edge = edgeAhead[edge];
                }
            }
        }

        private void begin(Reach reach, boolean byTurns) {
            size = 0;
            Arrays.fill(levels, NONE);
            Arrays.fill(edgeTo, NONE);
            for (int node = 0; node < reach.size && node < NODES; node++) {
                boolean empty = reach.places[node] >> WHO == NOBODY;
                /* Of the landlady's blinds one that leads out is enough; of the tenant's both must. */
                left[node * 2 + LANDLADY] = byTurns ? 1 : 0;
                left[node * 2 + TENANT] = empty ? 1 : 2;
                if (empty) {
                    leadOut(node * 2 + LANDLADY, 0);
                    leadOut(node * 2 + TENANT, 0);
                } else {
                    addEdge(node * 2, reach.to[node * 2]);
                    addEdge(node * 2 + 1, reach.to[node * 2 + 1]);
                }
            }
        }

        private void addEdge(int edge, int node) {
            if (node >= 0 && node < NODES && edge >= 0 && edge < edgeAhead.length) {
                edgeAhead[edge] = edgeTo[node];
                edgeTo[node] = edge;
            }
        }

        private void leadOut(int state, int level) {
            if (state < 0 || state >= left.length) {
                return;
            }
            left[state]--;
            if (left[state] == 0 && size < settled.length) {
                levels[state] = level;
                settled[size++] = state;
            }
        }

        /** The blind of the i-th night of staying; NONE if there are not so many. */
        int stayBlind(Reach reach, int i) {
            int node = 0;
            int blind = NONE;
            for (int k = 0; k <= i; k++) {
                int level = level(node, TENANT);
                if (level == 0 || level == 1 || node < 0 || node >= NODES) {
                    return NONE;
                }
                int due = level == NONE ? NONE : level - 1;
                blind = level(reach.to[node * 2], TENANT) == due ? 0 : 1;
                node = reach.to[node * 2 + blind];
            }
            return blind;
        }

        /** The landlady's first blind by which it goes within as few nights as can be. */
        int forcingBlind(Reach reach) {
            int level = level(0, LANDLADY);
            if (level == NONE) {
                return NONE;
            }
            return level(reach.to[0], TENANT) == level - 1 ? 0 : 1;
        }
    }
}
