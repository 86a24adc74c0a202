import java.util.Arrays;

/** A turnpike for the dead; ../shared/DOC.md tells every promise of it. */
public final class GhostPike {
    public static final int NONE = -1;

    /** What a call answers where the document says -2: asked rightly, but there is none. */
    private static final int ABSENT = -2;

    private static final int MAX_TAPE = 2000;
    private static final int MAX_TOKENS = 400;
    private static final int MAX_PLACES = 8;
    private static final int MAX_ROADS = 12;
    private static final int MAX_GHOSTS = 7;
    private static final int MAX_RATE = 9;

    private static final int FEED_BYTES = 20;
    private static final int MAX_GO_BY = 30;
    private static final int MAX_IN = 60;
    private static final int MAX_BEST = 30;
    private static final int MAX_PUT_GATES = 3;
    private static final int MAX_PUT_NIGHTS = 9;
    private static final int MAX_KEEPERS_NIGHTS = 9;
    private static final int MAX_SEEDS = 20;
    private static final int MAX_MEETING = 99;
    private static final int MAX_DREAM_NIGHT = 30;

    private final Tape tape = new Tape();
    private final Reader reader = new Reader();
    private final World world = new World();
    private final State now = new State();
    private final Past past = new Past();
    private final Forecast forecast = new Forecast(world, now);
    private final Dreams dreams = new Dreams(world);
    /** A text is written here, so that a FAULT leaves the one ahead whole. */
    private Told draft = new Told();
    private int faultPlace = NONE;

    public GhostPike() {
        Told nothing = new Told();
        nothing.clear();
        world.begin(nothing);
        now.begin(nothing);
        world.enter(now);
    }

    public int feed(int a, int b, int c, int d, int e) {
        if (tape.length + FEED_BYTES > MAX_TAPE) {
            return NONE;
        }
        tape.add(a);
        tape.add(b);
        tape.add(c);
        tape.add(d);
        tape.add(e);
        return tape.length;
    }

    public int back(int n) {
        if (n < 0 || n > tape.length) {
            return NONE;
        }
        tape.length -= n;
        return tape.length;
    }

    public int read() {
        int fault = reader.readInto(draft, tape);
        faultPlace = reader.faultPlace;
        tape.length = 0;
        if (fault == 0) {
            Told old = world.told;
            world.begin(draft);
            now.begin(draft);
            draft = old;
            past.clear();
            dreams.clear();
            forecast.outdate();
        }
        return fault;
    }

    public int place() {
        return faultPlace;
    }

    public int road(int road, int what) {
        if (!isRoad(road)) {
            return NONE;
        }
        Told told = world.told;
        switch (what) {
            case 0: return told.one[road];
            case 1: return told.other[road];
            case 2: return told.hours[road];
            case 3: return told.fields >> road & 1;
            case 4: return now.cells[State.GATES] >> road & 1;
            case 5: return now.cells[State.WEAR + road];
            case 6: world.enter(now); return world.broken >> road & 1;
            case 7: return now.cells[State.SEEN_ON + road];
            case 8: return now.cells[State.PAID_ON + road];
            default: return NONE;
        }
    }

    public int ghost(int ghost, int what) {
        if (!isGhost(ghost)) {
            return NONE;
        }
        Told told = world.told;
        switch (what) {
            case 0: return told.kind[ghost];
            case 1: return told.carries[ghost];
            case 2: return told.every[ghost];
            case 3: return told.isNightOf(ghost, now.cells[State.NIGHT]) ? 1 : 0;
            case 4: return now.cells[State.PAID + ghost];
            case 5: return now.cells[State.WENT + ghost];
            case 6: return now.cells[State.STAYED + ghost];
            case 7: return now.cells[State.SEEN + ghost];
            default: return NONE;
        }
    }

    public int cost(int ghost, int road) {
        if (!isGhost(ghost) || !isRoad(road)) {
            return NONE;
        }
        world.enter(now);
        return world.priceOf(ghost, road);
    }

    public int way(int ghost, int what) {
        if (!isGhost(ghost) || what < 0 || what > 3) {
            return NONE;
        }
        world.enter(now);
        if (!world.findWay(ghost)) {
            return ABSENT;
        }
        Way way = world.ways[ghost];
        switch (what) {
            case 0: return way.total;
            case 1: return world.hoursOf(way);
            case 2: return way.length;
            default: return world.paidOn(way, world.told.carries[ghost]);
        }
    }

    public int wayAt(int ghost, int i) {
        if (!isGhost(ghost) || i < 0) {
            return NONE;
        }
        world.enter(now);
        if (!world.findWay(ghost)) {
            return ABSENT;
        }
        Way way = world.ways[ghost];
        return i < way.length ? way.roads[i] : NONE;
    }

    public boolean gate(int road, boolean up) {
        if (!isRoad(road)) {
            return false;
        }
        int gates = now.cells[State.GATES];
        if ((gates >> road & 1) != 0 == up) {
            return false;
        }
        beginThing();
        now.cells[State.GATES] = gates ^ 1 << road;
        return true;
    }

    public boolean rate(int rate) {
        if (rate < 0 || rate > MAX_RATE || rate == now.cells[State.EVEN_RATE]) {
            return false;
        }
        beginThing();
        now.setRates(rate, rate);
        return true;
    }

    public int mend(int road) {
        if (!isRoad(road)) {
            return NONE;
        }
        int wear = now.cells[State.WEAR + road];
        int till = now.cells[State.TILL];
        if (wear == 0 || wear > till) {
            return ABSENT;
        }
        beginThing();
        now.cells[State.WEAR + road] = 0;
        now.cells[State.TILL] = till - wear;
        return till - wear;
    }

    public int nights(int n) {
        if (n < 0 || n > MAX_GO_BY) {
            return NONE;
        }
        if (n > 0) {
            beginThing();
            world.enter(now);
            world.passNights(n);
        }
        return now.cells[State.NIGHT];
    }

    public boolean undo() {
        forecast.outdate();
        return past.takeBack(now);
    }

    public int tonight(int what) {
        if (what < 0 || what > 2) {
            return NONE;
        }
        forecast.startAnew();
        forecast.run(1);
        switch (what) {
            case 0: return forecast.grown(State.TILL, 1);
            case 1: return forecast.grown(State.WENT, MAX_GHOSTS);
            default: return forecast.grown(State.SEEN, MAX_GHOSTS);
        }
    }

    public int put(int gates, int nights, int what) {
        boolean asked = gates >= 1 && gates <= MAX_PUT_GATES && nights >= 1 && nights <= MAX_PUT_NIGHTS;
        if (!asked || what < 0 || what > 1) {
            return NONE;
        }
        if (world.told.roads < gates) {
            return ABSENT;
        }
        forecast.seekGates(gates, nights);
        return what == 0 ? forecast.most : forecast.which;
    }

    public int free() {
        world.enter(now);
        return world.freeGhosts();
    }

    public int stop(int what) {
        if (what < 0 || what > 1) {
            return NONE;
        }
        forecast.seekStop();
        return what == 0 ? forecast.most : forecast.which;
    }

    public int saves(int ghost) {
        if (!isGhost(ghost)) {
            return NONE;
        }
        world.enter(now);
        if (!world.findWay(ghost)) {
            return ABSENT;
        }
        return world.ways[ghost].total - forecast.costWithoutGates(ghost);
    }

    public int pays(int ghost, int n) {
        if (!isGhost(ghost) || n < 0 || n > MAX_IN) {
            return NONE;
        }
        forecast.startAnew();
        forecast.run(n);
        return forecast.grown(State.PAID + ghost, 1);
    }

    public int seen(int road, int n) {
        if (!isRoad(road) || n < 0 || n > MAX_IN) {
            return NONE;
        }
        forecast.startAnew();
        forecast.run(n);
        return forecast.grown(State.SEEN_ON + road, 1);
    }

    public int busiest(int n, int what) {
        if (n < 0 || n > MAX_IN || what < 0 || what > 1) {
            return NONE;
        }
        if (world.told.roads == 0) {
            return ABSENT;
        }
        forecast.seekBusiest(n);
        return what == 0 ? forecast.which : forecast.most;
    }

    public int best(int n, int what) {
        if (n < 1 || n > MAX_BEST || what < 0 || what > 1) {
            return NONE;
        }
        forecast.seekRate(n);
        return what == 0 ? forecast.which : forecast.most;
    }

    public int keepers(int n, int i) {
        if (n < 1 || n > MAX_KEEPERS_NIGHTS || i < NONE) {
            return NONE;
        }
        forecast.takeByKeepers(n);
        return forecast.rest(i);
    }

    public int breaks(int road) {
        return isRoad(road) ? forecast.nightsUntilBroken(road) : NONE;
    }

    public int first(int what) {
        if (what < 0 || what > 1) {
            return NONE;
        }
        forecast.seekFirstBroken();
        return what == 0 ? forecast.which : forecast.most;
    }

    public int meets(int ghost, int other) {
        if (!isGhost(ghost) || !isGhost(other) || ghost == other) {
            return NONE;
        }
        Told told = world.told;
        for (int night = now.cells[State.NIGHT]; night <= MAX_MEETING; night++) {
            if (told.isNightOf(ghost, night) && told.isNightOf(other, night)) {
                return night;
            }
        }
        return ABSENT;
    }

    public int cutOff(int ghost) {
        return isGhost(ghost) ? forecast.nightsUntilCutOff(ghost) : NONE;
    }

    public int year(int n, int s) {
        if (n < 0 || n > MAX_IN || s < 1 || s > MAX_SEEDS) {
            return NONE;
        }
        return forecast.growthBySeeds(n, s);
    }

    public int sheet(boolean dead, boolean below) {
        return world.told.sheetChance(dead, below);
    }

    public int tell(int road, int night, boolean seen) {
        boolean known = isRoad(road) && night >= 0 && night <= MAX_DREAM_NIGHT;
        if (!known || (world.told.fields >> road & 1) == 0) {
            return NONE;
        }
        return dreams.add(road, night, seen);
    }

    public int forget() {
        int size = dreams.size;
        dreams.size = 0;
        return size;
    }

    public int who(int k, int i) {
        if (k < 0 || k > dreams.size || i < NONE) {
            return NONE;
        }
        dreams.learnFor(k, NONE);
        return dreams.pickSet(k, i);
    }

    public int watch(int k, int night) {
        if (k < 0 || k > dreams.size || night < 0 || night > MAX_DREAM_NIGHT) {
            return NONE;
        }
        dreams.learnFor(k, night);
        return dreams.roadToWatch(k, night);
    }

    public boolean hold(int slot) {
        return past.fillSlot(slot, now);
    }

    public boolean restore(int slot) {
        forecast.outdate();
        return past.useSlot(slot, now);
    }

    public int count(int what) {
        Told told = world.told;
        switch (what) {
            case 0: return told.places;
            case 1: return told.roads;
            case 2: return told.ghosts;
            case 3: return now.cells[State.NIGHT];
            case 4: return now.cells[State.EVEN_RATE];
            case 5: return now.cells[State.TILL];
            case 6: return now.cells[State.GATES];
            case 7: world.enter(now); return world.foggy;
            case 8: return tape.length;
            case 9: return past.size;
            case 10: return dreams.size;
            case 11: return Integer.bitCount(past.slotsHeld);
            case 12: world.enter(now); return world.broken;
            default: return NONE;
        }
    }

    private void beginThing() {
        past.keep(now);
        forecast.outdate();
    }

    private boolean isRoad(int road) {
        return road >= 0 && road < world.told.roads;
    }

    private boolean isGhost(int ghost) {
        return ghost >= 0 && ghost < world.told.ghosts;
    }

    /** The bytes that wait to be read. */
    private static final class Tape {
        final byte[] bytes = new byte[MAX_TAPE];
        int length;

        void add(int word) {
            for (int shift = 24; shift >= 0 && length < MAX_TAPE; shift -= 8) {
                bytes[length] = (byte) (word >>> shift);
                length++;
            }
        }
    }

    /** The TOKENS of a tape; behind the last one stands END or, where there is no TOKEN, BAD. */
    private static final class Tokens {
        static final int END = 0;
        static final int BAD = 1;
        static final int NAME = 2;
        static final int NUMBER = 3;
        /** Signs are their own kinds; words are numbered from here on, as they stand in WORDS. */
        static final int WORD = 128;
        static final int PLACE = WORD;
        static final int ROAD = WORD + 1;
        static final int FIELD = WORD + 2;
        static final int GATE = WORD + 3;
        static final int GHOST = WORD + 4;
        static final int OWES = WORD + 5;
        static final int FEARS = WORD + 6;
        static final int BEARS = WORD + 7;
        static final int FOG = WORD + 8;
        static final int LAMP = WORD + 9;
        static final int SEED = WORD + 10;
        static final int IF = WORD + 11;
        static final int THEN = WORD + 12;
        static final int ELSE = WORD + 13;
        static final int FIRST_VAR = WORD + 14;

        private static final int WORD_COUNT = 23;
        private static final String WORDS = "place road field gate ghost owes fears bears fog lamp seed if then else kind carries every foggy rate hours wear which night";
        private static final int MAX_LETTERS = 8;
        private static final int MAX_DIGITS = 4;
        /** One more than may be, so that the reader sees which TOKEN is too many. */
        private static final int ROWS = MAX_TOKENS + 1;

        final int[] kinds = new int[ROWS];
        final int[] places = new int[ROWS];
        /** An INT's number, or a NAME's letters as one number. */
        final long[] values = new long[ROWS];
        private final long[] words = new long[WORD_COUNT];

        Tokens() {
            int word = 0;
            for (int i = 0; i < WORDS.length(); i++) {
                char letter = WORDS.charAt(i);
                if (letter == ' ') {
                    word++;
                } else if (word < WORD_COUNT) {
                    words[word] = withLetter(words[word], letter);
                }
            }
        }

        void scan(Tape tape) {
            int from = 0;
            boolean more = true;
            for (int row = 0; row < ROWS && more; row++) {
                from = scanOne(tape, afterBlanks(tape, from), row);
                more = kinds[row] != END && kinds[row] != BAD;
            }
        }

        private int scanOne(Tape tape, int from, int row) {
            places[row] = from;
            values[row] = 0;
            if (from >= tape.length) {
                kinds[row] = END;
                return from;
            }
            int sign = tape.bytes[from];
            if (isLetter(sign)) {
                return scanLetters(tape, from, row);
            }
            if (isDigit(sign)) {
                return scanDigits(tape, from, row);
            }
            kinds[row] = isSign(sign) ? sign : BAD;
            return from + 1;
        }

        private int scanLetters(Tape tape, int from, int row) {
            int end = from;
            long name = 0;
            while (end < tape.length && isLetter(tape.bytes[end])) {
                name = withLetter(name, tape.bytes[end]);
                end++;
            }
            values[row] = name;
            kinds[row] = end - from > MAX_LETTERS ? BAD : kindOf(name);
            return end;
        }

        private int scanDigits(Tape tape, int from, int row) {
            int end = from;
            long number = 0;
            while (end < tape.length && isDigit(tape.bytes[end])) {
                number = number * 10 + (tape.bytes[end] - '0');
                end++;
            }
            values[row] = number;
            kinds[row] = end - from > MAX_DIGITS ? BAD : NUMBER;
            return end;
        }

        private int kindOf(long name) {
            for (int i = 0; i < WORD_COUNT; i++) {
                if (words[i] == name) {
                    return WORD + i;
                }
            }
            return NAME;
        }

        private static int afterBlanks(Tape tape, int from) {
            int at = from;
            while (at < tape.length && isBlank(tape.bytes[at])) {
                at++;
            }
            return at;
        }

        private static long withLetter(long name, int letter) {
            return name * 32 + (letter - 'a' + 1);
        }

        private static boolean isBlank(int sign) {
            return sign == 32 || sign == 9 || sign == 10 || sign == 13;
        }

        private static boolean isLetter(int sign) {
            return sign >= 'a' && sign <= 'z';
        }

        private static boolean isDigit(int sign) {
            return sign >= '0' && sign <= '9';
        }

        private static boolean isSign(int sign) {
            switch (sign) {
                case ';': case '=': case '+': case '-': case '*': case '/': case '<': case '(': case ')': return true;
                default: return false;
            }
        }
    }

    /** Reads a tape into a draft, and finds the FAULT. */
    private static final class Reader {
        private static final int SYNTAX = 1;
        private static final int ROOM = 2;
        private static final int TWICE = 3;
        private static final int UNKNOWN = 4;
        private static final int WRONG = 5;

        private static final int MAX_IFS = 4;
        private static final int MAX_DEPTH = 6;
        /** Two operators and a '(' at each of the depths, and some. */
        private static final int MAX_WAITING = 24;
        /** The kind of all that comes behind a FAULT of form: no rule goes on with it. */
        private static final int SHUT = -1;

        int faultPlace;
        private final Tokens tokens = new Tokens();
        private final long[] placeNames = new long[MAX_PLACES];
        private final long[] ghostNames = new long[MAX_GHOSTS];
        private final int[] waiting = new int[MAX_WAITING];
        private int waits;
        private int depth;
        private Told draft;
        private int at;
        /** SYNTAX or ROOM: it goes ahead of every FAULT of sense, wherever that stands. */
        private int formFault;
        private int formPlace;
        private int senseFault;
        private int sensePlace;

        int readInto(Told empty, Tape tape) {
            draft = empty;
            draft.clear();
            tokens.scan(tape);
            at = 0;
            formFault = 0;
            senseFault = 0;
            for (int i = 0; i < MAX_TOKENS && kindHere() > Tokens.END; i++) {
                readTelling();
            }
            if (formFault != 0) {
                faultPlace = formPlace;
                return formFault;
            }
            faultPlace = senseFault != 0 ? sensePlace : NONE;
            return senseFault;
        }

        private void readTelling() {
            switch (kindHere()) {
                case Tokens.PLACE: readPlace(); break;
                case Tokens.ROAD: readRoad(); break;
                case Tokens.GHOST: readGhost(); break;
                case Tokens.OWES: readLaw(draft.owes); break;
                case Tokens.FEARS: readLaw(draft.fears); break;
                case Tokens.BEARS: readLaw(draft.bears); break;
                case Tokens.FOG:
                    take();
                    draft.fog = readNumber(0, 100);
                    break;
                case Tokens.LAMP:
                    take();
                    draft.sheets = readNumber(0, 100);
                    draft.errs = readNumber(0, 100);
                    break;
                case Tokens.SEED:
                    take();
                    draft.seed = readNumber(0, 9999);
                    break;
                default: failHere(SYNTAX);
            }
            expect(';');
        }

        private void readPlace() {
            if (draft.places >= MAX_PLACES) {
                failHere(ROOM);
                return;
            }
            take();
            readNewName(placeNames, draft.places);
            draft.places++;
        }

        private void readRoad() {
            int road = draft.roads;
            if (road >= MAX_ROADS) {
                failHere(ROOM);
                return;
            }
            take();
            draft.one[road] = readOldPlace(NONE);
            draft.other[road] = readOldPlace(draft.one[road]);
            draft.hours[road] = readNumber(1, 9);
            if (kindHere() == Tokens.FIELD) {
                take();
                draft.fields |= 1 << road;
            }
            if (kindHere() == Tokens.GATE) {
                take();
                draft.gates |= 1 << road;
            }
            draft.roads++;
        }

        private void readGhost() {
            int ghost = draft.ghosts;
            if (ghost >= MAX_GHOSTS) {
                failHere(ROOM);
                return;
            }
            take();
            readNewName(ghostNames, ghost);
            draft.home[ghost] = readOldPlace(NONE);
            draft.goal[ghost] = readOldPlace(draft.home[ghost]);
            draft.kind[ghost] = readNumber(0, 9);
            draft.carries[ghost] = readNumber(0, 99);
            draft.every[ghost] = readNumber(1, 9);
            draft.ghosts++;
        }

        private void readNewName(long[] names, int number) {
            long name = tokens.values[at];
            int where = tokens.places[at];
            if (!expect(Tokens.NAME)) {
                return;
            }
            boolean known = numberOf(name, placeNames, draft.places) != NONE
                    || numberOf(name, ghostNames, draft.ghosts) != NONE;
            if (known) {
                failSense(TWICE, where);
            }
            names[number] = name;
        }

        /** The PLACE named here, which is not to be the one that is given. */
        private int readOldPlace(int begin) {
            long name = tokens.values[at];
            int where = tokens.places[at];
            if (!expect(Tokens.NAME)) {
                return NONE;
            }
            int number = numberOf(name, placeNames, draft.places);
            if (number == NONE) {
                failSense(UNKNOWN, where);
            } else if (number == begin) {
                failSense(TWICE, where);
            }
            return number;
        }

        private int readNumber(int low, int high) {
            int number = (int) tokens.values[at];
            int where = tokens.places[at];
            if (expect(Tokens.NUMBER) && (number < low || number > high)) {
                failSense(WRONG, where);
            }
            return number;
        }

        private void readLaw(Law law) {
            take();
            law.clear();
            expect('=');
            for (int ifs = 0; ifs < MAX_IFS && kindHere() == Tokens.IF; ifs++) {
                take();
                readSum(law);
                expect('<');
                readSum(law);
                expect(Tokens.THEN);
                int skip = law.add(Law.UNLESS_LESS, 0);
                readSum(law);
                expect(Tokens.ELSE);
                law.add(Law.ANSWER, 0);
                law.aim(skip);
            }
            if (kindHere() == Tokens.IF) {
                failHere(ROOM);
            }
            readSum(law);
            law.add(Law.ANSWER, 0);
        }

        /** An E, written so that operators stand behind what they work on. */
        private void readSum(Law law) {
            waits = 0;
            depth = 0;
            readUnit(law);
            for (int i = 0; i < MAX_TOKENS && readOperator(law); i++) {
                readUnit(law);
            }
            settle(law, 1);
        }

        /** An INT or a VAR, with every '(' ahead of it and every ')' behind it. */
        private void readUnit(Law law) {
            for (int i = 0; i <= MAX_DEPTH && kindHere() == '('; i++) {
                if (depth >= MAX_DEPTH) {
                    failHere(ROOM);
                } else {
                    putOff('(');
                    depth++;
                    take();
                }
            }
            int kind = kindHere();
            if (kind == Tokens.NUMBER) {
                law.add(Law.PUSH, (int) tokens.values[at]);
                take();
            } else if (kind >= Tokens.FIRST_VAR) {
                law.addVar(kind - Tokens.FIRST_VAR);
                take();
            } else {
                failHere(SYNTAX);
            }
            for (int i = 0; i <= MAX_DEPTH && depth > 0 && kindHere() == ')'; i++) {
                settle(law, 1);
                waits = Math.max(0, waits - 1);
                depth--;
                take();
            }
        }

        private boolean readOperator(Law law) {
            int kind = kindHere();
            int rank = rankOf(kind);
            if (rank == 0) {
                if (depth > 0) {
                    failHere(SYNTAX);
                }
                return false;
            }
            settle(law, rank);
            putOff(kind);
            take();
            return true;
        }

        private void putOff(int sign) {
            if (waits < MAX_WAITING) {
                waiting[waits] = sign;
                waits++;
            }
        }

        /** Of the operators that wait behind the last '(', those that bind at least so go into the LAW. */
        private void settle(Law law, int rank) {
            while (waits > 0 && rankOf(waiting[waits - 1]) >= rank) {
                waits--;
                law.add(workOf(waiting[waits]), 0);
            }
        }

        private static int rankOf(int kind) {
            switch (kind) {
                case '+': case '-': return 1;
                case '*': case '/': return 2;
                default: return 0;
            }
        }

        private static int workOf(int sign) {
            switch (sign) {
                case '+': return Law.ADD;
                case '-': return Law.SUBTRACT;
                case '*': return Law.MULTIPLY;
                default: return Law.DIVIDE;
            }
        }

        private static int numberOf(long name, long[] names, int size) {
            for (int i = 0; i < size && i < names.length; i++) {
                if (names[i] == name) {
                    return i;
                }
            }
            return NONE;
        }

        private int kindHere() {
            return formFault == 0 ? tokens.kinds[at] : SHUT;
        }

        private boolean expect(int kind) {
            if (kindHere() != kind) {
                failHere(SYNTAX);
                return false;
            }
            take();
            return true;
        }

        /** Goes on behind a TOKEN that may stand here; only now may it be one too many, as SYNTAX goes first. */
        private void take() {
            if (at >= MAX_TOKENS) {
                failHere(ROOM);
            } else if (formFault == 0) {
                at++;
            }
        }

        private void failHere(int fault) {
            if (formFault == 0) {
                formFault = fault;
                formPlace = tokens.places[at];
            }
        }

        private void failSense(int fault, int where) {
            if (senseFault == 0) {
                senseFault = fault;
                sensePlace = where;
            }
        }
    }

    /** A LAW as a row of works on a stack, with what it said last for each GHOST and ROAD. */
    private static final class Law {
        static final int PUSH = 0;
        static final int LOAD = 1;
        static final int ADD = 2;
        static final int SUBTRACT = 3;
        static final int MULTIPLY = 4;
        static final int DIVIDE = 5;
        static final int UNLESS_LESS = 6;
        static final int ANSWER = 7;
        private static final int WORK_BITS = 3;

        /** The VARS, as the words for them stand in WORDS. */
        static final int KIND = 0;
        static final int CARRIES = 1;
        static final int EVERY = 2;
        static final int FOGGY = 3;
        static final int RATE = 4;
        static final int HOURS = 5;
        static final int WEAR = 6;
        static final int WHICH = 7;
        static final int NIGHT = 8;
        static final int VARS = 9;

        static final int ALL_VARS = (1 << VARS) - 1;
        static final int BEARS_VARS = 1 << HOURS | 1 << WHICH | 1 << NIGHT;

        /** Where in a key the VARS stand that change while a text holds. */
        static final int RATE_SHIFT = 24;
        static final int FOGGY_SHIFT = 28;
        static final int NIGHT_SHIFT = 32;
        static final long WEAR_MASK = (1L << RATE_SHIFT) - 1;
        private static final long RATE_MASK = 15L << RATE_SHIFT;
        private static final long FOGGY_MASK = 1L << FOGGY_SHIFT;
        private static final long NIGHT_MASK = -1L << NIGHT_SHIFT;

        /** Two values that wait at each of seven depths, the left side of an if, the last one; and some. */
        static final int STACK = 24;
        /** The stack is empty here; the dearest work reaches two below. */
        private static final int BOTTOM = 2;

        /** The part of a key that this LAW looks at. */
        long mask;
        final long[] keys = new long[MAX_GHOSTS * MAX_ROADS];
        final int[] values = new int[MAX_GHOSTS * MAX_ROADS];
        private final int vars;
        /** Each TOKEN of a LAW makes one work at most. */
        private final int[] works = new int[MAX_TOKENS];
        private int length;

        Law(int vars) {
            this.vars = vars;
        }

        void clear() {
            length = 0;
            mask = 0;
            Arrays.fill(keys, NONE);
        }

        int add(int work, int number) {
            int place = length;
            if (place < MAX_TOKENS) {
                works[place] = number << WORK_BITS | work;
                length++;
            }
            return place;
        }

        void addVar(int which) {
            if ((vars >> which & 1) == 0) {
                add(PUSH, 0);
                return;
            }
            add(LOAD, which);
            mask |= maskOf(which);
        }

        /** The jump at this place goes to where the next work will stand. */
        void aim(int place) {
            if (place >= 0 && place < length) {
                works[place] = length << WORK_BITS | UNLESS_LESS;
            }
        }

        boolean looksAtFog() {
            return (mask & FOGGY_MASK) != 0;
        }

        int valueOf(int[] given, int[] stack) {
            int[] row = works;
            int end = length;
            int high = stack.length - 2;
            int top = BOTTOM;
            for (int at = 0; at < end; at++) {
                // What the reader lets through never gets here; it is seen here that no work leaves the stack.
                if (top < BOTTOM || top > high) {
                    return 0;
                }
                int number = row[at] >> WORK_BITS;
                switch (row[at] & (1 << WORK_BITS) - 1) {
                    case PUSH:
                        top++;
                        stack[top] = number;
                        break;
                    case LOAD:
                        top++;
                        stack[top] = number >= 0 && number < given.length ? given[number] : 0;
                        break;
                    case ADD:
                        top--;
                        stack[top] += stack[top + 1];
                        break;
                    case SUBTRACT:
                        top--;
                        stack[top] -= stack[top + 1];
                        break;
                    case MULTIPLY:
                        top--;
                        stack[top] *= stack[top + 1];
                        break;
                    case DIVIDE:
                        if (stack[top] == 0) {
                            return 0;
                        }
                        top--;
                        stack[top] /= stack[top + 1];
                        break;
                    case UNLESS_LESS:
                        top -= 2;
                        // Forward alone, so that the row comes to its end.
                        if (stack[top + 1] >= stack[top + 2] && number > at) {
                            at = number - 1;
                        }
                        break;
                    default:
                        return stack[top];
                }
            }
            return 0;
        }

        private static long maskOf(int which) {
            switch (which) {
                case FOGGY: return FOGGY_MASK;
                case RATE: return RATE_MASK;
                case WEAR: return WEAR_MASK;
                case NIGHT: return NIGHT_MASK;
                default: return 0;
            }
        }
    }

    /** What a text says. */
    private static final class Told {
        int places;
        int roads;
        int ghosts;
        final int[] one = new int[MAX_ROADS];
        final int[] other = new int[MAX_ROADS];
        final int[] hours = new int[MAX_ROADS];
        /** Bits of ROADS. */
        int fields;
        int gates;
        final int[] home = new int[MAX_GHOSTS];
        final int[] goal = new int[MAX_GHOSTS];
        final int[] kind = new int[MAX_GHOSTS];
        final int[] carries = new int[MAX_GHOSTS];
        final int[] every = new int[MAX_GHOSTS];
        final Law owes = new Law(Law.ALL_VARS);
        final Law fears = new Law(Law.ALL_VARS);
        final Law bears = new Law(Law.BEARS_VARS);
        int fog;
        int sheets;
        int errs;
        int seed;

        void clear() {
            places = 0;
            roads = 0;
            ghosts = 0;
            fields = 0;
            gates = 0;
            owes.clear();
            owes.addVar(Law.RATE);
            owes.add(Law.ANSWER, 0);
            fears.clear();
            fears.add(Law.PUSH, 5);
            fears.add(Law.ANSWER, 0);
            bears.clear();
            bears.add(Law.PUSH, 99);
            bears.add(Law.ANSWER, 0);
            fog = 0;
            sheets = 10;
            errs = 20;
            seed = 0;
        }

        boolean isNightOf(int ghost, int night) {
            int often = every[ghost];
            return often > 0 && night % often == 0;
        }

        /** Whether another SEED could change what happens. */
        boolean hangsOnSeed() {
            boolean looked = owes.looksAtFog() || fears.looksAtFog();
            return looked && fog > 0 && fog < 100;
        }

        int sheetChance(boolean dead, boolean below) {
            int sheetsSoCalled = sheets * (dead ? errs : 100 - errs);
            int deadSoCalled = (100 - sheets) * (dead ? 100 - errs : errs);
            if (sheetsSoCalled == 0) {
                return below ? 1 : 0;
            }
            int all = sheetsSoCalled + deadSoCalled;
            int part = below ? all : sheetsSoCalled;
            int shared = greatestShared(all, sheetsSoCalled);
            return shared == 0 ? 0 : part / shared;
        }

        private static int greatestShared(int larger, int smaller) {
            int a = larger;
            int b = smaller;
            for (int i = 0; i < 64 && b != 0; i++) {
                int rest = a % b;
                a = b;
                b = rest;
            }
            return a;
        }
    }

    /** All that goes on, in one row, so that it is kept and brought back at once. */
    private static final class State {
        static final int NIGHT = 0;
        /** The RATE at the GATES on ROADS with even numbers; but for KEEPERS the other one is alike. */
        static final int EVEN_RATE = 1;
        static final int ODD_RATE = 2;
        static final int TILL = 3;
        static final int GATES = 4;
        static final int SEED = 5;
        /** Bits of the GHOSTS that there are. */
        static final int THERE = 6;
        static final int WEAR = 7;
        static final int SEEN_ON = WEAR + MAX_ROADS;
        static final int PAID_ON = SEEN_ON + MAX_ROADS;
        static final int PAID = PAID_ON + MAX_ROADS;
        static final int WENT = PAID + MAX_GHOSTS;
        static final int STAYED = WENT + MAX_GHOSTS;
        static final int SEEN = STAYED + MAX_GHOSTS;
        static final int SIZE = SEEN + MAX_GHOSTS;

        final int[] cells = new int[SIZE];

        void begin(Told told) {
            Arrays.fill(cells, 0);
            setRates(1, 1);
            cells[GATES] = told.gates;
            cells[SEED] = told.seed;
            cells[THERE] = (1 << told.ghosts) - 1;
        }

        void setRates(int even, int odd) {
            cells[EVEN_RATE] = even;
            cells[ODD_RATE] = odd;
        }

        void copy(State from) {
            System.arraycopy(from.cells, 0, cells, 0, SIZE);
        }
    }

    /** What was, for undo(), and what SLOTS hold. */
    private static final class Past {
        private static final int MAX_KEPT = 40;
        private static final int SLOTS = 3;

        int size;
        /** Bits of SLOTS. */
        int slotsHeld;
        private final int[] kept = new int[MAX_KEPT * State.SIZE];
        private final int[] slots = new int[SLOTS * State.SIZE];
        private int next;

        void clear() {
            size = 0;
            slotsHeld = 0;
        }

        void keep(State now) {
            System.arraycopy(now.cells, 0, kept, next * State.SIZE, State.SIZE);
            next = (next + 1) % MAX_KEPT;
            size = Math.min(size + 1, MAX_KEPT);
        }

        boolean takeBack(State now) {
            if (size == 0) {
                return false;
            }
            size--;
            next = (next + MAX_KEPT - 1) % MAX_KEPT;
            System.arraycopy(kept, next * State.SIZE, now.cells, 0, State.SIZE);
            return true;
        }

        boolean fillSlot(int slot, State now) {
            if (slot < 0 || slot >= SLOTS) {
                return false;
            }
            System.arraycopy(now.cells, 0, slots, slot * State.SIZE, State.SIZE);
            slotsHeld |= 1 << slot;
            return true;
        }

        boolean useSlot(int slot, State now) {
            if (slot < 0 || slot >= SLOTS || (slotsHeld >> slot & 1) == 0) {
                return false;
            }
            System.arraycopy(slots, slot * State.SIZE, now.cells, 0, State.SIZE);
            size = 0;
            return true;
        }
    }

    /** A GHOST's WAY; it stays until a price changes by which another one could be his. */
    private static final class Way {
        /** Above every COST; the price of a BROKEN ROAD. */
        static final int FAR = 1000000;

        boolean known;
        /** Bits of the ROADS whose prices may be others by now. */
        int doubtful;
        private final int[] prices = new int[MAX_ROADS];
        /** What is owed on each ROAD, which may change though the price does not. */
        final int[] owed = new int[MAX_ROADS];
        final int[] roads = new int[MAX_PLACES];
        int length;
        int total;
        int roadBits;
        private final int[] left = new int[MAX_PLACES];

        boolean isThere() {
            return total < FAR;
        }

        /** A ROAD that he does not go and that only got dearer leaves his WAY as it is. */
        void setPrice(int road, int price) {
            int old = prices[road];
            if (price < old || price > old && (roadBits >> road & 1) != 0) {
                known = false;
            }
            prices[road] = price;
        }

        void seek(Told told, int ghost) {
            known = true;
            length = 0;
            roadBits = 0;
            int home = told.home[ghost];
            int goal = told.goal[ghost];
            measure(told, goal);
            total = left[home];
            if (!isThere()) {
                return;
            }
            int at = home;
            for (int i = 0; i < MAX_PLACES && at != goal; i++) {
                at = stepFrom(told, at);
            }
        }

        /** What is left to the goal from each PLACE, by taking shorter ways until there are none. */
        private void measure(Told told, int goal) {
            int[] far = left;
            int[] price = prices;
            int[] ones = told.one;
            int[] others = told.other;
            Arrays.fill(far, FAR);
            far[goal] = 0;
            boolean better = true;
            for (int round = 0; round < MAX_PLACES && better; round++) {
                better = false;
                for (int road = told.roads - 1; road >= 0; road--) {
                    int one = far[ones[road]];
                    int other = far[others[road]];
                    if (other + price[road] < one) {
                        far[ones[road]] = other + price[road];
                        better = true;
                    } else if (one + price[road] < other) {
                        far[others[road]] = one + price[road];
                        better = true;
                    }
                }
            }
        }

        private int stepFrom(Told told, int at) {
            for (int road = 0; road < told.roads; road++) {
                int end = told.one[road] == at ? told.other[road] : told.other[road] == at ? told.one[road] : NONE;
                if (end != NONE && left[end] + prices[road] == left[at]) {
                    roads[length] = road;
                    length++;
                    roadBits |= 1 << road;
                    return end;
                }
            }
            return at;
        }
    }

    /** A text and a state of it, in which nights pass. */
    private static final class World {
        private static final int MAX_PRICE = 99;
        private static final int MAX_BEARING = 999;

        Told told;
        int foggy;
        /** Bits of the ROADS on which somebody was SEEN in the night that passed last. */
        int seenOn;
        final Way[] ways = new Way[MAX_GHOSTS];
        /** Bits of the BROKEN ROADS. */
        int broken;
        private int[] cells;
        private long nightKey;
        private long bearsKey;
        private final int[] bearing = new int[MAX_ROADS];
        private final int[] vars = new int[Law.VARS];
        private final int[] stack = new int[Law.STACK];

        World() {
            for (int ghost = 0; ghost < MAX_GHOSTS; ghost++) {
                ways[ghost] = new Way();
            }
        }

        void begin(Told text) {
            told = text;
            bearsKey = NONE;
            for (int ghost = 0; ghost < MAX_GHOSTS; ghost++) {
                ways[ghost].known = false;
            }
        }

        void enter(State state) {
            cells = state.cells;
            lookAtNight();
            broken = findBroken();
            doubt(-1);
        }

        /** The state that was entered has other GATES. */
        void changeGates(int gates) {
            doubt(cells[State.GATES] ^ gates);
            cells[State.GATES] = gates;
        }

        void passNights(int n) {
            for (int i = 0; i < n; i++) {
                passNight();
            }
        }

        void passNight() {
            seenOn = 0;
            int night = cells[State.NIGHT];
            int there = cells[State.THERE];
            for (int ghost = 0; ghost < told.ghosts; ghost++) {
                if ((there >> ghost & 1) != 0 && told.isNightOf(ghost, night)) {
                    if (findWay(ghost)) {
                        walk(ghost);
                    } else {
                        cells[State.STAYED + ghost]++;
                    }
                }
            }
            cells[State.NIGHT] = night + 1;
            lookAtNight();
        }

        /** Whether a GHOST has a WAY, which is then in ways. */
        boolean findWay(int ghost) {
            Way way = ways[ghost];
            int doubtful = way.doubtful;
            way.doubtful = 0;
            for (int road = 0; road < told.roads && doubtful >>> road != 0; road++) {
                if ((doubtful >>> road & 1) != 0) {
                    way.setPrice(road, (broken >> road & 1) != 0 ? Way.FAR : priceOf(ghost, road));
                }
            }
            if (!way.known) {
                way.seek(told, ghost);
            }
            return way.isThere();
        }

        /** COST of a ROAD; what is owed of it stays with the GHOST's WAY. */
        int priceOf(int ghost, int road) {
            int price = told.hours[road];
            int owed = 0;
            if ((cells[State.GATES] >> road & 1) != 0) {
                owed = said(told.owes, ghost, road, MAX_PRICE);
            }
            ways[ghost].owed[road] = owed;
            if ((told.fields >> road & 1) != 0) {
                price += said(told.fears, ghost, road, MAX_PRICE);
            }
            return price + owed;
        }

        int hoursOf(Way way) {
            int hours = 0;
            for (int i = 0; i < way.length; i++) {
                hours += told.hours[way.roads[i]];
            }
            return hours;
        }

        int paidOn(Way way, int carries) {
            int owed = 0;
            for (int i = 0; i < way.length; i++) {
                owed += way.owed[way.roads[i]];
            }
            return Math.min(owed, carries);
        }

        int freeGhosts() {
            int free = 0;
            for (int ghost = 0; ghost < told.ghosts; ghost++) {
                if (findWay(ghost) && (ways[ghost].roadBits & cells[State.GATES]) == 0) {
                    free |= 1 << ghost;
                }
            }
            return free;
        }

        private void walk(int ghost) {
            Way way = ways[ghost];
            int[] row = cells;
            int carries = told.carries[ghost];
            int worn = 0;
            for (int i = 0; i < way.length; i++) {
                int road = way.roads[i];
                int owed = way.owed[road];
                if (owed > 0) {
                    int paid = Math.min(owed, carries);
                    carries -= paid;
                    row[State.PAID_ON + road] += paid;
                }
                if ((told.fields >> road & 1) != 0) {
                    row[State.SEEN_ON + road]++;
                    row[State.SEEN + ghost]++;
                    seenOn |= 1 << road;
                }
                row[State.WEAR + road]++;
                if (row[State.WEAR + road] >= bearing[road]) {
                    worn |= 1 << road;
                }
            }
            int paid = told.carries[ghost] - carries;
            row[State.TILL] += paid;
            row[State.PAID + ghost] += paid;
            row[State.WENT + ghost]++;
            broken |= worn;
            doubt(worn);
            doubtBy(Law.WEAR_MASK, way.roadBits);
        }

        private int findBroken() {
            int bits = 0;
            for (int road = told.roads - 1; road >= 0; road--) {
                if (cells[State.WEAR + road] >= bearing[road]) {
                    bits |= 1 << road;
                }
            }
            return bits;
        }

        /** Prices on these ROADS may be others, as something has changed at which the LAWS may look. */
        private void doubtBy(long changed, int roads) {
            int doubtful = 0;
            if ((changed & told.owes.mask) != 0) {
                doubtful |= cells[State.GATES];
            }
            if ((changed & told.fears.mask) != 0) {
                doubtful |= told.fields;
            }
            doubt(doubtful & roads);
        }

        private void doubt(int roads) {
            for (int ghost = 0; roads != 0 && ghost < told.ghosts; ghost++) {
                ways[ghost].doubtful |= roads;
            }
        }

        private void lookAtNight() {
            int night = cells[State.NIGHT];
            long lastKey = nightKey;
            foggy = told.fog > 0 && lot(100, cells[State.SEED], night) < told.fog ? 1 : 0;
            nightKey = ((long) night << Law.NIGHT_SHIFT) + ((long) foggy << Law.FOGGY_SHIFT);
            doubtBy(lastKey ^ nightKey, -1);
            long key = nightKey & told.bears.mask;
            if (key != bearsKey) {
                bearsKey = key;
                for (int road = 0; road < told.roads; road++) {
                    bearing[road] = said(told.bears, 0, road, MAX_BEARING);
                }
                int before = broken;
                broken = findBroken();
                doubt(before ^ broken);
            }
        }

        /** What a LAW says, held; asked anew only if something that it looks at has changed. */
        private int said(Law law, int ghost, int road, int high) {
            int rate = cells[State.EVEN_RATE + (road & 1)];
            int wear = cells[State.WEAR + road];
            long key = nightKey + ((long) rate << Law.RATE_SHIFT) + wear & law.mask;
            int at = ghost * MAX_ROADS + road;
            if (law.keys[at] == key) {
                return law.values[at];
            }
            vars[Law.KIND] = told.kind[ghost];
            vars[Law.CARRIES] = told.carries[ghost];
            vars[Law.EVERY] = told.every[ghost];
            vars[Law.FOGGY] = foggy;
            vars[Law.RATE] = rate;
            vars[Law.HOURS] = told.hours[road];
            vars[Law.WEAR] = wear;
            vars[Law.WHICH] = road;
            vars[Law.NIGHT] = cells[State.NIGHT];
            int value = Math.max(0, Math.min(high, law.valueOf(vars, stack)));
            law.keys[at] = key;
            law.values[at] = value;
            return value;
        }

        private static int lot(int n, int seed, int which) {
            int h = stirred(stirred(seed, 73), which);
            return n > 0 ? (h >>> 1) % n : 0;
        }

        private static int stirred(int h, int by) {
            int mixed = (h ^ by) * 1103515245 + 12345;
            return mixed ^ mixed >>> 15;
        }
    }

    /** What would be: all of it happens in a state of its own. */
    private static final class Forecast {
        private static final int MAX_NIGHTS = 200;
        private static final int KEEPER_RATES = 4;
        /** Questions, which are numbered on from here by what they ask for. */
        private static final int PUT = 100;
        private static final int BEST = 200;
        private static final int BUSIEST = 300;
        private static final int KEEPERS = 400;
        private static final int FIRST = 500;
        private static final int STOP = 600;

        /** What the latest search found. */
        int most;
        int which;
        /** The question that was searched for; many are asked twice, once for each half of the answer. */
        private int answered = NONE;
        private final World world;
        private final State now;
        private final State then = new State();
        /** By 4 * the even one's RATE + the other's. */
        private final int[] evenTakes = new int[KEEPER_RATES * KEEPER_RATES];
        private final int[] oddTakes = new int[KEEPER_RATES * KEEPER_RATES];
        private final int[] openRoads = new int[MAX_GHOSTS];

        Forecast(World world, State now) {
            this.world = world;
            this.now = now;
        }

        /** Something has happened since the latest search. */
        void outdate() {
            answered = NONE;
        }

        /** Whatever the last run changed is as it is now. */
        void startAnew() {
            then.copy(now);
        }

        void run(int nights) {
            world.enter(then);
            for (int i = 0; i < nights; i++) {
                world.passNight();
            }
        }

        int grown(int cell, int many) {
            int sum = 0;
            for (int i = cell; i < cell + many && i < State.SIZE; i++) {
                sum += then.cells[i] - now.cells[i];
            }
            return sum;
        }

        void seekGates(int gates, int nights) {
            if (isAnswered(PUT + 10 * gates + nights)) {
                return;
            }
            int end = 1 << world.told.roads;
            for (int bits = 0; bits < end; bits++) {
                if (Integer.bitCount(bits) == gates) {
                    startAnew();
                    then.cells[State.GATES] = bits;
                    run(nights);
                    keepMost(grown(State.TILL, 1), bits);
                }
            }
        }

        void seekRate(int nights) {
            if (isAnswered(BEST + nights)) {
                return;
            }
            for (int rate = 0; rate <= MAX_RATE; rate++) {
                startAnew();
                then.setRates(rate, rate);
                run(nights);
                keepMost(grown(State.TILL, 1), rate);
            }
        }

        void seekBusiest(int nights) {
            if (isAnswered(BUSIEST + nights)) {
                return;
            }
            startAnew();
            run(nights);
            for (int road = 0; road < world.told.roads; road++) {
                keepMost(grown(State.WEAR + road, 1), road);
            }
        }

        void seekStop() {
            if (isAnswered(STOP)) {
                return;
            }
            findOpenRoads();
            which = fewestGates();
            most = Integer.bitCount(which);
        }

        int costWithoutGates(int ghost) {
            startAnew();
            then.cells[State.GATES] = 0;
            world.enter(then);
            world.findWay(ghost);
            return world.ways[ghost].total;
        }

        void takeByKeepers(int nights) {
            if (isAnswered(KEEPERS + nights)) {
                return;
            }
            for (int pair = 0; pair < KEEPER_RATES * KEEPER_RATES; pair++) {
                startAnew();
                then.setRates(pair / KEEPER_RATES, pair % KEEPER_RATES);
                run(nights);
                int even = 0;
                for (int road = 0; road < MAX_ROADS; road += 2) {
                    even += grown(State.PAID_ON + road, 1);
                }
                evenTakes[pair] = even;
                oddTakes[pair] = grown(State.TILL, 1) - even;
            }
        }

        /** The i-th of the pairs at which both rest, or how many there are if i is NONE. */
        int rest(int i) {
            int found = 0;
            for (int pair = 0; pair < KEEPER_RATES * KEEPER_RATES; pair++) {
                if (bothRest(pair)) {
                    if (found == i) {
                        return 10 * (pair / KEEPER_RATES) + pair % KEEPER_RATES;
                    }
                    found++;
                }
            }
            return i == NONE ? found : NONE;
        }

        int nightsUntilBroken(int road) {
            startAnew();
            world.enter(then);
            for (int night = 0; night < MAX_NIGHTS; night++) {
                if ((world.broken >> road & 1) != 0) {
                    return night;
                }
                world.passNight();
            }
            return (world.broken >> road & 1) != 0 ? MAX_NIGHTS : ABSENT;
        }

        void seekFirstBroken() {
            if (isAnswered(FIRST)) {
                return;
            }
            most = ABSENT;
            which = ABSENT;
            startAnew();
            world.enter(then);
            int whole = ~world.broken;
            for (int night = 1; night <= MAX_NIGHTS; night++) {
                world.passNight();
                int broken = world.broken & whole;
                if (broken != 0) {
                    which = firstBit(broken);
                    most = night;
                    return;
                }
            }
        }

        int nightsUntilCutOff(int ghost) {
            startAnew();
            world.enter(then);
            for (int night = 0; night < MAX_NIGHTS; night++) {
                if (!world.findWay(ghost)) {
                    return night;
                }
                world.passNight();
            }
            return world.findWay(ghost) ? ABSENT : MAX_NIGHTS;
        }

        int growthBySeeds(int nights, int seeds) {
            if (!world.told.hangsOnSeed()) {
                startAnew();
                run(nights);
                return grown(State.TILL, 1) * seeds;
            }
            int sum = 0;
            for (int i = 0; i < seeds; i++) {
                startAnew();
                then.cells[State.SEED] += i;
                run(nights);
                sum += grown(State.TILL, 1);
            }
            return sum;
        }

        /** Whether the latest search was for this; if not, one for it begins. */
        private boolean isAnswered(int question) {
            if (question == answered) {
                return true;
            }
            answered = question;
            most = NONE;
            which = 0;
            return false;
        }

        private void keepMost(int amount, int of) {
            if (amount > most) {
                most = amount;
                which = of;
            }
        }

        /** The WAYS without any GATE: a GHOST goes his own as long as no GATE is put on it. */
        private void findOpenRoads() {
            startAnew();
            then.cells[State.GATES] = 0;
            world.enter(then);
            for (int ghost = 0; ghost < world.told.ghosts; ghost++) {
                world.findWay(ghost);
                openRoads[ghost] = world.ways[ghost].roadBits;
            }
        }

        private int fewestGates() {
            int end = 1 << world.told.roads;
            for (int gates = 0; gates < world.told.roads; gates++) {
                for (int bits = 0; bits < end; bits++) {
                    if (Integer.bitCount(bits) == gates && leavesNobodyFree(bits)) {
                        return bits;
                    }
                }
            }
            return end - 1;
        }

        private boolean leavesNobodyFree(int gates) {
            int ghosts = world.told.ghosts;
            for (int ghost = 0; ghost < ghosts; ghost++) {
                if (openRoads[ghost] != 0 && (openRoads[ghost] & gates) == 0) {
                    return false;
                }
            }
            world.changeGates(gates);
            for (int ghost = 0; ghost < ghosts; ghost++) {
                if (world.findWay(ghost) && (world.ways[ghost].roadBits & gates) == 0) {
                    return false;
                }
            }
            return true;
        }

        private boolean bothRest(int pair) {
            int even = pair / KEEPER_RATES;
            int odd = pair % KEEPER_RATES;
            for (int rate = 0; rate < KEEPER_RATES; rate++) {
                if (evenTakes[KEEPER_RATES * rate + odd] > evenTakes[pair]) {
                    return false;
                }
                if (oddTakes[KEEPER_RATES * even + rate] > oddTakes[pair]) {
                    return false;
                }
            }
            return true;
        }

        private static int firstBit(int bits) {
            for (int i = 0; i < MAX_ROADS; i++) {
                if ((bits >> i & 1) != 0) {
                    return i;
                }
            }
            return NONE;
        }
    }

    /** What is TOLD of who was SEEN, and who there may be by it. */
    private static final class Dreams {
        private static final int MAX_DREAMS = 20;
        private static final int MAX_SETS = 1 << MAX_GHOSTS;
        private static final int NIGHTS = MAX_DREAM_NIGHT + 1;

        int size;
        private final World world;
        private final State state = new State();
        private final int[] roads = new int[MAX_DREAMS];
        private final int[] nights = new int[MAX_DREAMS];
        /** 1 if somebody was SEEN, else 0. */
        private final int[] seen = new int[MAX_DREAMS];
        /** How many nights from the text's begin are known for each set, on which ROADS one is SEEN in each. */
        private int learnt;
        private int[] seenOn;
        /** The WEAR by which each set's next night begins: all that a night from the begin hangs on. */
        private int[] wear;
        private final int[] setsThatShow = new int[MAX_ROADS];

        Dreams(World world) {
            this.world = world;
        }

        void clear() {
            size = 0;
            learnt = 0;
        }

        int add(int road, int night, boolean wasSeen) {
            if (size >= MAX_DREAMS) {
                return NONE;
            }
            roads[size] = road;
            nights[size] = night;
            seen[size] = wasSeen ? 1 : 0;
            size++;
            return size - 1;
        }

        /** The i-th of the sets that there may be, or how many there are if i is NONE. */
        int pickSet(int known, int i) {
            int found = 0;
            int sets = 1 << world.told.ghosts;
            for (int set = 0; set < sets; set++) {
                if (mayBe(set, known)) {
                    if (found == i) {
                        return set;
                    }
                    found++;
                }
            }
            return i == NONE ? found : NONE;
        }

        int roadToWatch(int known, int night) {
            Arrays.fill(setsThatShow, 0);
            int found = 0;
            int sets = 1 << world.told.ghosts;
            for (int set = 0; set < sets; set++) {
                if (mayBe(set, known)) {
                    found++;
                    for (int road = 0; road < world.told.roads; road++) {
                        setsThatShow[road] += seenOn[night * MAX_SETS + set] >> road & 1;
                    }
                }
            }
            return roadThatLeavesFewest(found);
        }

        private int roadThatLeavesFewest(int found) {
            int fewest = MAX_SETS + 1;
            int road = ABSENT;
            for (int i = 0; i < world.told.roads; i++) {
                int left = Math.max(setsThatShow[i], found - setsThatShow[i]);
                if ((world.told.fields >> i & 1) != 0 && left < fewest) {
                    fewest = left;
                    road = i;
                }
            }
            return road;
        }

        private boolean mayBe(int set, int known) {
            for (int i = 0; i < known; i++) {
                if ((seenOn[nights[i] * MAX_SETS + set] >> roads[i] & 1) != seen[i]) {
                    return false;
                }
            }
            return true;
        }

        /** Makes the nights known that the first dreams hang on, and one night more; goes ahead of every question. */
        void learnFor(int known, int night) {
            int last = night;
            for (int i = 0; i < known; i++) {
                last = Math.max(last, nights[i]);
            }
            if (seenOn == null) {
                seenOn = new int[NIGHTS * MAX_SETS];
                wear = new int[MAX_ROADS * MAX_SETS];
            }
            if (last >= learnt) {
                int sets = 1 << world.told.ghosts;
                for (int set = 0; set < sets; set++) {
                    learnSet(set, last);
                }
                learnt = last + 1;
            }
        }

        private void learnSet(int set, int last) {
            state.begin(world.told);
            state.cells[State.THERE] = set;
            state.cells[State.NIGHT] = learnt;
            if (learnt > 0) {
                System.arraycopy(wear, set * MAX_ROADS, state.cells, State.WEAR, MAX_ROADS);
            }
            world.enter(state);
            for (int night = learnt; night <= last; night++) {
                world.passNight();
                seenOn[night * MAX_SETS + set] = world.seenOn;
            }
            System.arraycopy(state.cells, State.WEAR, wear, set * MAX_ROADS, MAX_ROADS);
        }
    }
}
