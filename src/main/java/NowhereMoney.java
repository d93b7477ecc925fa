/**
 * Money that is nowhere: houses, their books at four banks in three towns, and cheques that ride
 * by rail between them. What each call answers is promised in the document; README.md says how to
 * use the class. Nothing is made after the constructor: every row stands from the beginning.
 */
public final class NowhereMoney {
    public static final int NONE = -1;

    private static final int NO_SUM = NONE - 99999999;
    private static final int NO_CHEQUE = NONE - 1;

    private static final int BANKS = 4;
    private static final int HOUSES = 6;
    private static final int TOWNS = 3;
    private static final int ALL_BANKS = 15;
    private static final int ALL_HOUSES = 63;
    private static final int BOOKS = HOUSES * BANKS;
    private static final int DAYS = 90;
    private static final int WEEK = 7;
    private static final int SUNDAY = 6;
    private static final int MOST_RAIL = 5;
    private static final int MOST_AMOUNT = 99999;
    private static final int MOST_CASH = 999999;

    private static final int CHEQUES = 150;
    /** A cheque's row; the places in it are the numbers that cheque() is asked with. */
    private static final int CHEQUE_ROW = 10;
    private static final int DRAWER = 0;
    private static final int ON = 1;
    private static final int PAYEE = 2;
    private static final int AT = 3;
    private static final int AMOUNT = 4;
    private static final int PAID_IN_DAY = 5;
    private static final int STATE = 6;
    private static final int TRAINS = 7;
    private static final int HOLD_DAYS = 8;
    private static final int ASKED_DAY = 9;

    private static final int ON_WAY = 0;
    private static final int PAID = 1;
    private static final int GOING_BACK = 2;
    private static final int CAME_BACK = 3;

    private static final int ENTRIES = 900;
    private static final int ENTRY_ROW = 7;
    private static final int CASH_ENTRY = 0;
    private static final int PAID_IN_ENTRY = 1;
    private static final int PAID_ENTRY = 2;
    private static final int FEE_ENTRY = 3;
    private static final int COME_BACK_ENTRY = 4;

    /** What is kept of a house on a day: its books, what is real, its book at each bank. */
    private static final int KEPT_ROW = 2 + BANKS;

    private static final int TAPE = 400;
    private static final int FED = 20;
    private static final int TEXTS = 5;
    private static final int SIGNS = 4;
    private static final int LINES = 12;
    private static final int OPEN = 8;

    /** The words of a law's lines, by the numbers that their tokens have, too. */
    private static final int HOLD = 0;
    private static final int LIMIT = 1;
    private static final int FEE = 2;
    private static final int MOST_HOLD = 20;
    private static final int MOST_LIMIT = 999999;
    private static final int MOST_FEE = 9999;

    /** What a text's lines may ask for: seven values in laws, seven in signs. */
    private static final int FACTS = 7;
    private static final int FACT_AMOUNT = 0;
    private static final int FACT_FAR = 1;
    private static final int FACT_RAIL = 2;
    private static final int FACT_HOUSE = 3;
    private static final int FACT_WEEKDAY = 4;
    private static final int FACT_BOOK = 5;
    private static final int FACT_COUNT = 6;
    private static final int SIGN_TURN = 0;
    private static final int SIGN_COUNT = 1;
    private static final int SIGN_ROUND = 2;
    private static final int SIGN_MATCH = 3;
    private static final int SIGN_BOOK = 4;
    private static final int SIGN_LOW = 5;
    private static final int SIGN_FAR = 6;
    private static final int SIGN_CRIES = 7;

    private static final int CANT_STAND = 1;
    private static final int PART_BY_NOTHING = 2;
    private static final int TOO_MANY = 3;

    /** Codes of a script: numbers from 0 on, facts from -1 downwards, then what is done to them. */
    private static final int LAST_FACT = -FACTS;
    private static final int DO_ADD = -10;
    private static final int DO_SUBTRACT = -11;
    private static final int DO_MULTIPLY = -12;
    private static final int DO_DIVIDE = -13;
    private static final int DO_LESS = -14;
    private static final int DO_EQUAL = -15;
    private static final int DO_GREATER = -16;
    private static final int DO_NOT = -17;
    private static final int DO_AND = -18;
    private static final int DO_OR = -19;
    /** Two for each of the nine depths of a condition and four for a sum: 22 are the most. */
    private static final int STACK = 32;

    /** Tokens: signs stand for themselves, words from TOKEN_WORD on. */
    private static final int TOKEN_END = 0;
    private static final int TOKEN_BAD = 1;
    private static final int TOKEN_NUMBER = 2;
    private static final int TOKEN_FACT = 3;
    private static final int TOKEN_WORD = 100;
    private static final int TOKEN_FEE = TOKEN_WORD + FEE;
    private static final int TOKEN_WHEN = 103;
    private static final int TOKEN_OR = 104;
    private static final int TOKEN_AND = 105;
    private static final int TOKEN_NOT = 106;
    private static final int FIRST_FACT_WORD = 7;
    private static final int WORDS = FIRST_FACT_WORD + FACTS;
    private static final int NUMBER_DIGITS = 5;
    private static final String TOKEN_SIGNS = ";+-*/()<=>";

    private static final int ORDERS = 4;
    private static final int GREATEST_FIRST = 1;
    private static final int LEAST_FIRST = 2;
    private static final int BY_HOUSE = 3;
    private static final int END_DAYS = 40;
    private static final int SNOW_DAYS = 14;
    /** Above all that a flight can last: 89 days told closed or of snow, and five trains. */
    private static final int LONGEST_FLIGHT = 200;

    private static final int FEWEST_IN_RING = 2;
    private static final int MOST_RING_AMOUNT = 9999;
    private static final int PAYMENTS = 6;
    private static final int MOST_WATER = 999999999;
    private static final int MOST_COST = 500;
    private static final int MOST_GROWTH_DAYS = 60;
    private static final int THOUSAND = 1000;

    private final Tape tape;
    private final Reader reader;
    private final World world;
    private final World picture;
    private final Ledger thought;
    private final Watch watch;
    private final Rings rings;
    private final Ways ways;
    private final int[] nets;
    private boolean hasPicture;
    private int latestFault;
    private int latestPlace;
    private int gross;
    private int endDays;
    private int endReturned;

    public NowhereMoney() {
        tape = new Tape();
        reader = new Reader();
        world = new World();
        picture = new World();
        thought = new Ledger(world.country, null);
        watch = new Watch(world);
        rings = new Rings();
        ways = new Ways();
        nets = new int[BANKS];
        latestPlace = NONE;
    }

    // ---- what is told of banks, rails, days and texts

    public boolean town(int bank, int town) {
        if (!isBank(bank) || !isTown(town) || world.ledger.count > 0) {
            return false;
        }
        world.country.towns[bank] = town;
        return true;
    }

    public boolean rail(int a, int b, int days) {
        if (!isTown(a) || !isTown(b) || a == b || days < 0 || days > MOST_RAIL) {
            return false;
        }
        world.country.rails[a * TOWNS + b] = days;
        world.country.rails[b * TOWNS + a] = days;
        return true;
    }

    public boolean told(int what, int day, boolean is) {
        if (!isDay(day) || day <= world.ledger.now) {
            return false;
        }
        if (what == 0) {
            world.country.closed[day] = is ? 1 : 0;
            return true;
        }
        if (what == 1) {
            world.country.snow[day] = is ? 1 : 0;
            return true;
        }
        return false;
    }

    public int feed(int a, int b, int c, int d, int e) {
        if (tape.length + FED > TAPE) {
            return NONE;
        }
        tape.put(a);
        tape.put(b);
        tape.put(c);
        tape.put(d);
        tape.put(e);
        return tape.length;
    }

    public boolean end(int n) {
        if (n < 0 || n > tape.length) {
            return false;
        }
        tape.length = n;
        return true;
    }

    public int text(int k) {
        latestFault = 0;
        latestPlace = NONE;
        if (k < 0 || k >= TEXTS) {
            tape.length = 0;
            return NONE;
        }
        boolean stands = reader.compile(tape, k == SIGNS);
        tape.length = 0;
        if (!stands) {
            latestFault = reader.fault;
            latestPlace = reader.faultPlace;
            return NONE;
        }
        world.country.scripts[k].copyFrom(reader.draft);
        return reader.draft.lines;
    }

    public int fault(int what) {
        if (what == 0) {
            return latestFault;
        }
        return what == 1 ? latestPlace : NONE;
    }

    // ---- cash, cheques and days

    public boolean cash(int house, int bank, int v) {
        if (!isHouse(house) || !isBank(bank) || v == 0 || v > MOST_CASH || v < -MOST_CASH) {
            return false;
        }
        Ledger ledger = world.ledger;
        if (!world.country.isBusiness(ledger.now)) {
            return false;
        }
        if (v < 0) {
            int limit = ledger.lawValue(LIMIT, house, bank, bank, -v, ledger.now % WEEK);
            if (ledger.usable(house, bank) + limit < -v) {
                return false;
            }
        }
        ledger.cash[house * BANKS + bank] += v;
        ledger.change(house, bank, CASH_ENTRY, NONE, v);
        return true;
    }

    public int pay(int house, int on, int to, int at, int amount) {
        if (!isHouse(house) || !isBank(on) || !isHouse(to) || !isBank(at) || !isAmount(amount)) {
            return NONE;
        }
        Ledger ledger = world.ledger;
        if (!world.country.isBusiness(ledger.now) || ledger.count >= CHEQUES) {
            return NONE;
        }
        return ledger.takeIn(house, on, to, at, amount);
    }

    public int day() {
        Ledger ledger = world.ledger;
        if (ledger.now >= DAYS - 1) {
            return NONE;
        }
        int returned = ledger.morning(0);
        world.keep();
        watch.lookAlone();
        return returned;
    }

    // ---- what the books tell and what is really there

    public int book(int house, int bank, int what) {
        if (!isHouse(house) || !isBank(bank)) {
            return NO_SUM;
        }
        Ledger ledger = world.ledger;
        switch (what) {
            case 0:
                return ledger.books[house * BANKS + bank];
            case 1:
                return ledger.usable(house, bank);
            case 2:
                return ledger.held(house, bank);
            case 3:
                return ledger.paidInLately(house, bank);
            default:
                return NO_SUM;
        }
    }

    public int cheque(int k, int what) {
        if (!isCheque(k) || what < 0 || what >= CHEQUE_ROW) {
            return NO_CHEQUE;
        }
        return world.ledger.rows[k * CHEQUE_ROW + what];
    }

    public int really(int house, int what) {
        if (!isHouse(house)) {
            return NO_SUM;
        }
        int books = world.ledger.booksOf(house);
        int real = books - world.ledger.waterOf(house);
        switch (what) {
            case 0:
                return books;
            case 1:
                return real;
            case 2:
                return books - real;
            default:
                return NO_SUM;
        }
    }

    public int kept(int day, int house, int what) {
        boolean isKept = day > 0 && day < DAYS && day <= world.ledger.now;
        if (!isKept || !isHouse(house) || what < 0 || what >= KEPT_ROW) {
            return NO_SUM;
        }
        return world.kept[(day * HOUSES + house) * KEPT_ROW + what];
    }

    public int sums(int what) {
        Ledger ledger = world.ledger;
        switch (what) {
            case 0:
                return sumOf(ledger.books);
            case 1:
                return ledger.sumInFlight();
            case 2:
                return sumOf(ledger.cash);
            case 3:
                return sumOf(ledger.fees);
            case 4:
                return ledger.countInFlight();
            default:
                return NONE;
        }
    }

    // ---- flights and rings

    public int flight(int at, int on, int day) {
        if (!isBank(at) || !isBank(on) || !isBusinessDay(day)) {
            return NONE;
        }
        return world.country.flightDays(at, on, day);
    }

    public int ring(int k, int amount, int day, int what) {
        if (!isRing(k, amount, day) || what < 0 || what > 1) {
            return NONE;
        }
        fillRings(amount, day, NONE);
        rings.search(k);
        return what == 0 ? rings.most : rings.mostRing;
    }

    public int letIn(int k, int amount, int day, int hold) {
        if (!isRing(k, amount, day) || hold < 0 || hold > MOST_HOLD) {
            return NONE;
        }
        fillRings(amount, day, hold);
        rings.search(k);
        return rings.most;
    }

    /** Each pair of banks stands in some ring of k, so the longest flight of a pair is the answer. */
    public int leastHold(int k, int day, int kind) {
        if (!isRing(k, 1, day) || kind < 0 || kind > 2) {
            return NONE;
        }
        Country country = world.country;
        int least = 0;
        for (int on = 0; on < BANKS; on++) {
            for (int at = 0; at < BANKS; at++) {
                boolean far = country.areFar(at, on);
                boolean asked = kind == 0 || (kind == 1 && !far) || (kind == 2 && far);
                if (on != at && asked) {
                    least = Math.max(least, country.flightDays(at, on, day));
                }
            }
        }
        return least;
    }

    // ---- chains, entries and growth

    public int chain(int k, int what) {
        if (!isCheque(k)) {
            return NO_CHEQUE;
        }
        Ledger ledger = world.ledger;
        int length = 0;
        int first = k;
        for (int link = k; link != NONE && length < CHEQUES; link = ledger.restsOn(link)) {
            first = link;
            length++;
        }
        switch (what) {
            case 0:
                return ledger.restsOn(k);
            case 1:
                return length;
            case 2:
                return first;
            case 3:
                return ledger.part(k, PAID_IN_DAY) - ledger.part(first, PAID_IN_DAY);
            default:
                return NO_CHEQUE;
        }
    }

    public int entry(int i, int what) {
        if (i < 0 || i >= world.entries.count || what < 0 || what >= ENTRY_ROW) {
            return NO_SUM;
        }
        return world.entries.rows[i * ENTRY_ROW + what];
    }

    public int growth(int w, int c, int n) {
        boolean stands = w >= 0 && w <= MOST_WATER && c >= 0 && c <= MOST_COST;
        if (!stands || n < 0 || n > MOST_GROWTH_DAYS) {
            return NONE;
        }
        long water = w;
        for (int i = 0; i < n; i++) {
            water = Math.min(MOST_WATER, water + water * c / THOUSAND);
        }
        return (int) water;
    }

    // ---- signs and cries

    public int sign(int house, int banks, int what) {
        if (!isHouse(house) || !isBankSet(banks) || what < 0 || what > SIGN_CRIES) {
            return NO_SUM;
        }
        if (what == SIGN_CRIES) {
            return watch.criesFor(house, banks) ? 1 : 0;
        }
        watch.gather(house, banks);
        return watch.facts[what];
    }

    public boolean kiters(int set) {
        if (set < 0 || set > ALL_HOUSES) {
            return false;
        }
        world.kiters = set;
        return true;
    }

    public int cries(int banks, int what) {
        if (!isBankSet(banks)) {
            return NONE;
        }
        int set = watch.cryingHouses(banks);
        int hits = Integer.bitCount(set & world.kiters);
        int wrong = Integer.bitCount(set & ~world.kiters);
        switch (what) {
            case 0:
                return set;
            case 1:
                return hits;
            case 2:
                return wrong;
            case 3:
                return Integer.bitCount(world.kiters & ~set);
            case 4:
                return hits + wrong == 0 ? NONE : THOUSAND * hits / (hits + wrong);
            default:
                return NONE;
        }
    }

    public int like(int house, int banks, int what) {
        if (!isHouse(house) || !isBankSet(banks) || what < 0 || what > 1) {
            return NONE;
        }
        int own = watch.turnOf(house, banks);
        int answer = 0;
        for (int other = 0; other < HOUSES; other++) {
            if (other == house || world.isKiter(other)) {
                continue;
            }
            int turn = watch.turnOf(other, banks);
            boolean isLike = turn >= own / 2 && turn <= own * 2;
            if (isLike && (what == 0 || watch.criesFor(other, banks))) {
                answer++;
            }
        }
        return answer;
    }

    public int alone(int house, int bank) {
        if (!isHouse(house) || !isBank(bank)) {
            return NONE;
        }
        return world.firstCries[house * BANKS + bank];
    }

    // ---- the end

    public int ending(int order, int what) {
        if (order == NONE) {
            int best = 0;
            int leastLoss = thinkEnd(0);
            for (int other = 1; other < ORDERS; other++) {
                int loss = thinkEnd(other);
                if (loss < leastLoss) {
                    best = other;
                    leastLoss = loss;
                }
            }
            return best;
        }
        if (order < 0 || order >= ORDERS) {
            return NONE;
        }
        boolean ofBank = what >= 10 && what < 10 + BANKS;
        if (!ofBank && (what < 0 || what > 2)) {
            return NONE;
        }
        int loss = thinkEnd(order);
        if (ofBank) {
            return thought.lossOf(what - 10);
        }
        if (what == 2) {
            return loss;
        }
        return what == 0 ? endDays : endReturned;
    }

    public int snowed() {
        Country country = world.country;
        int loss = thinkEnd(0);
        int last = Math.min(world.ledger.now + SNOW_DAYS, DAYS - 1);
        int found = NONE;
        for (int day = world.ledger.now + 1; day <= last && found == NONE; day++) {
            if (country.hasSnow(day)) {
                continue;
            }
            country.thoughtSnow = day;
            if (thinkEnd(0) > loss) {
                found = day;
            }
            country.thoughtSnow = NONE;
        }
        return found;
    }

    // ---- payments, the room, burnt books

    public int payment(int amount, int town) {
        if (amount == 0) {
            world.payments = 0;
            return 0;
        }
        if (!isAmount(amount) || !isTown(town) || world.payments >= PAYMENTS) {
            return NONE;
        }
        world.payAmounts[world.payments] = amount;
        world.payTowns[world.payments] = town;
        world.payments++;
        return world.payments;
    }

    public int payFloat(int house, int what) {
        if (!isHouse(house) || !ways.search(world, house)) {
            return NONE;
        }
        if (what == 0) {
            return ways.most;
        }
        if (what == 1) {
            return ways.least;
        }
        if (what >= 10 && what < 10 + world.payments) {
            return ways.bankOf(ways.mostWay, what - 10, world.payments);
        }
        if (what >= 20 && what < 20 + world.payments) {
            return ways.bankOf(ways.leastWay, what - 20, world.payments);
        }
        return NONE;
    }

    public int room(int day, int what) {
        if (day < 0 || day > world.ledger.now || what < 0 || what > BANKS + 1) {
            return NO_SUM;
        }
        netOut(day);
        if (what < BANKS) {
            return nets[what];
        }
        return what == BANKS ? gross : roundOfRoom();
    }

    public int seen(int part) {
        if (part < 1 || part > THOUSAND) {
            return NONE;
        }
        for (int day = 0; day <= world.ledger.now; day++) {
            netOut(day);
            if (gross > 0 && (long) roundOfRoom() * THOUSAND >= (long) gross * part) {
                return day;
            }
        }
        return NONE;
    }

    public int burnt(int bank, int house, int amount, int what) {
        boolean stands = isBank(bank) && isHouse(house) && amount >= 0 && amount <= MOST_AMOUNT;
        if (!stands || what < 0 || what > 1) {
            return NO_SUM;
        }
        Ledger ledger = world.ledger;
        int low = ledger.provenBook(house, bank);
        if (what == 0) {
            return low;
        }
        int days = 0;
        for (int day = Math.max(0, ledger.now - WEEK + 1); day <= ledger.now; day++) {
            if (world.country.isBusiness(day)) {
                days++;
            }
        }
        return low + amount * days;
    }

    public int honest(int h) {
        if (h < 0 || h > MOST_HOLD) {
            return NONE;
        }
        Ledger ledger = world.ledger;
        int loss = 0;
        for (int k = 0; k < ledger.count; k++) {
            if (!world.isKiter(ledger.part(k, PAYEE))) {
                loss += ledger.part(k, AMOUNT) * h / THOUSAND;
            }
        }
        return loss;
    }

    // ---- the image and what can be looked at

    public boolean image(boolean taken) {
        if (taken) {
            picture.copyFrom(world);
            hasPicture = true;
            return true;
        }
        if (!hasPicture) {
            return false;
        }
        world.copyFrom(picture);
        return true;
    }

    public int look(int what) {
        switch (what) {
            case 0:
                return world.ledger.now;
            case 1:
                return world.ledger.count;
            case 2:
                return world.payments;
            case 3:
                return world.kiters;
            case 4:
                return world.country.isBusiness(world.ledger.now) ? 1 : 0;
            case 5:
                return hasPicture ? 1 : 0;
            case 6:
                return world.entries.count;
            default:
                return NONE;
        }
    }

    // ---- helpers of the face

    private static boolean isBank(int bank) {
        return bank >= 0 && bank < BANKS;
    }

    private static boolean isHouse(int house) {
        return house >= 0 && house < HOUSES;
    }

    private static boolean isTown(int town) {
        return town >= 0 && town < TOWNS;
    }

    private static boolean isDay(int day) {
        return day >= 0 && day < DAYS;
    }

    private static boolean isAmount(int amount) {
        return amount >= 1 && amount <= MOST_AMOUNT;
    }

    private static boolean isBankSet(int banks) {
        return banks >= 1 && banks <= ALL_BANKS;
    }

    private boolean isCheque(int k) {
        return k >= 0 && k < world.ledger.count;
    }

    private boolean isBusinessDay(int day) {
        return isDay(day) && world.country.isBusiness(day);
    }

    private boolean isRing(int k, int amount, int day) {
        boolean stands = k >= FEWEST_IN_RING && k <= BANKS && isBusinessDay(day);
        return stands && amount >= 1 && amount <= MOST_RING_AMOUNT;
    }

    private static int sumOf(int[] row) {
        int sum = 0;
        for (int v : row) {
            sum += v;
        }
        return sum;
    }

    /** What each pair of banks would hold up; by the banks' laws if no hold is told. */
    private void fillRings(int amount, int day, int toldHold) {
        for (int on = 0; on < BANKS; on++) {
            for (int at = 0; at < BANKS; at++) {
                int hold = toldHold;
                if (hold == NONE) {
                    hold = world.ledger.lawValue(HOLD, 0, at, on, amount, day % WEEK);
                }
                int days = Math.max(0, world.country.flightDays(at, on, day) - hold);
                rings.heldUp[on * BANKS + at] = amount * days;
            }
        }
    }

    /** Lets all in flight end in thought: the loss of all banks by it. */
    private int thinkEnd(int order) {
        thought.copyFrom(world.ledger);
        endDays = 0;
        endReturned = 0;
        for (int n = 0; n < END_DAYS && thought.countInFlight() > 0; n++) {
            endReturned += thought.morning(order);
            endDays++;
        }
        return thought.lossOfAll();
    }

    private void netOut(int day) {
        Ledger ledger = world.ledger;
        gross = 0;
        for (int bank = 0; bank < BANKS; bank++) {
            nets[bank] = 0;
        }
        for (int k = 0; k < ledger.count; k++) {
            if (ledger.part(k, STATE) == PAID && ledger.part(k, ASKED_DAY) == day) {
                int amount = ledger.part(k, AMOUNT);
                gross += amount;
                nets[ledger.part(k, AT)] += amount;
                nets[ledger.part(k, ON)] -= amount;
            }
        }
    }

    private int roundOfRoom() {
        int all = 0;
        for (int net : nets) {
            all += Math.abs(net);
        }
        return gross - all / 2;
    }

    // ---- the tape

    private static final class Tape {
        final int[] bytes = new int[TAPE];
        int length;

        void put(int number) {
            for (int shift = 24; shift >= 0 && length < TAPE; shift -= 8) {
                bytes[length] = (number >>> shift) & 255;
                length++;
            }
        }
    }

    // ---- texts

    /** Reads a tape into a draft; the draft is a text's script only if there is no fault. */
    private static final class Reader {
        final Script draft = new Script();
        final int[] kinds = new int[TAPE + 1];
        final int[] places = new int[TAPE + 1];
        final int[] numbers = new int[TAPE + 1];
        int tokens;
        int at;
        boolean ofSigns;
        int fault;
        int faultPlace;

        boolean compile(Tape tape, boolean signs) {
            ofSigns = signs;
            scan(tape);
            at = 0;
            draft.clear();
            for (int n = 0; n <= LINES; n++) {
                if (kind() == TOKEN_END) {
                    return true;
                }
                if (!isLineWord(kind())) {
                    return fails(CANT_STAND);
                }
                if (n == LINES) {
                    return fails(TOO_MANY);
                }
                draft.openLine(kind() - TOKEN_WORD);
                at++;
                if (!ofSigns && !sum()) {
                    return false;
                }
                draft.openCondition();
                if (kind() == TOKEN_WHEN) {
                    at++;
                    if (!either(0)) {
                        return false;
                    }
                } else if (ofSigns) {
                    return fails(CANT_STAND);
                }
                if (kind() != ';') {
                    return fails(CANT_STAND);
                }
                at++;
                draft.closeLine();
            }
            return false;
        }

        private boolean isLineWord(int kind) {
            return kind >= TOKEN_WORD && kind <= (ofSigns ? TOKEN_WORD : TOKEN_FEE);
        }

        private int kind() {
            return at >= 0 && at < tokens ? kinds[at] : TOKEN_END;
        }

        private boolean fails(int what) {
            fault = what;
            faultPlace = at >= 0 && at < tokens ? places[at] : NONE;
            return false;
        }

        /** B = A {or A}; depth: how many ( and not are open. */
        private boolean either(int depth) {
            if (!both(depth)) {
                return false;
            }
            for (int n = 0; n < TAPE && kind() == TOKEN_OR; n++) {
                at++;
                if (!both(depth)) {
                    return false;
                }
                draft.add(DO_OR);
            }
            return true;
        }

        private boolean both(int depth) {
            if (!single(depth)) {
                return false;
            }
            for (int n = 0; n < TAPE && kind() == TOKEN_AND; n++) {
                at++;
                if (!single(depth)) {
                    return false;
                }
                draft.add(DO_AND);
            }
            return true;
        }

        private boolean single(int depth) {
            int first = kind();
            boolean opens = first == TOKEN_NOT || first == '(';
            if (opens && depth >= OPEN) {
                return fails(TOO_MANY);
            }
            if (first == TOKEN_NOT) {
                at++;
                if (!single(depth + 1)) {
                    return false;
                }
                draft.add(DO_NOT);
                return true;
            }
            if (first == '(') {
                at++;
                if (!either(depth + 1)) {
                    return false;
                }
                if (kind() != ')') {
                    return fails(CANT_STAND);
                }
                at++;
                return true;
            }
            if (!sum()) {
                return false;
            }
            int sign = kind();
            if (sign != '<' && sign != '=' && sign != '>') {
                return fails(CANT_STAND);
            }
            at++;
            if (!sum()) {
                return false;
            }
            draft.add(sign == '<' ? DO_LESS : sign == '=' ? DO_EQUAL : DO_GREATER);
            return true;
        }

        private boolean sum() {
            if (!product()) {
                return false;
            }
            for (int n = 0; n < TAPE && (kind() == '+' || kind() == '-'); n++) {
                int sign = kind();
                at++;
                if (!product()) {
                    return false;
                }
                draft.add(sign == '+' ? DO_ADD : DO_SUBTRACT);
            }
            return true;
        }

        /** T = U {* U | / NUMBER}. */
        private boolean product() {
            int sign = 0;
            for (int n = 0; n <= TAPE; n++) {
                int kind = kind();
                if (kind != TOKEN_NUMBER && (kind != TOKEN_FACT || sign == '/')) {
                    return fails(CANT_STAND);
                }
                if (sign == '/' && numbers[at] == 0) {
                    return fails(PART_BY_NOTHING);
                }
                draft.add(kind == TOKEN_NUMBER ? numbers[at] : -1 - numbers[at]);
                at++;
                if (sign != 0) {
                    draft.add(sign == '*' ? DO_MULTIPLY : DO_DIVIDE);
                }
                sign = kind();
                if (sign != '*' && sign != '/') {
                    return true;
                }
                at++;
            }
            return false;
        }

        private void scan(Tape tape) {
            tokens = 0;
            int stop = 0;
            for (int i = 0; i < tape.length; i = stop) {
                int sign = tape.bytes[i];
                stop = i + 1;
                if (isLetter(sign)) {
                    while (stop < tape.length && isLetter(tape.bytes[stop])) {
                        stop++;
                    }
                    addWord(tape, i, stop);
                } else if (isDigit(sign)) {
                    while (stop < tape.length && isDigit(tape.bytes[stop])) {
                        stop++;
                    }
                    addNumber(tape, i, stop);
                } else if (sign != ' ' && sign != '\n') {
                    boolean known = TOKEN_SIGNS.indexOf((char) sign) >= 0;
                    addToken(known ? sign : TOKEN_BAD, i, 0);
                }
            }
            addToken(TOKEN_END, tape.length, 0);
        }

        private static boolean isLetter(int sign) {
            return (sign >= 'a' && sign <= 'z') || (sign >= 'A' && sign <= 'Z');
        }

        private static boolean isDigit(int sign) {
            return sign >= '0' && sign <= '9';
        }

        private void addToken(int kind, int place, int number) {
            if (tokens < kinds.length) {
                kinds[tokens] = kind;
                places[tokens] = place;
                numbers[tokens] = number;
                tokens++;
            }
        }

        private void addNumber(Tape tape, int from, int stop) {
            if (stop - from > NUMBER_DIGITS) {
                addToken(TOKEN_BAD, from, 0);
                return;
            }
            int number = 0;
            for (int i = from; i < stop; i++) {
                number = number * 10 + tape.bytes[i] - '0';
            }
            addToken(TOKEN_NUMBER, from, number);
        }

        private void addWord(Tape tape, int from, int stop) {
            for (int word = 0; word < WORDS; word++) {
                if (isWord(tape, from, stop, ofSigns ? signWord(word) : lawWord(word))) {
                    boolean isFact = word >= FIRST_FACT_WORD;
                    int kind = isFact ? TOKEN_FACT : TOKEN_WORD + word;
                    addToken(kind, from, isFact ? word - FIRST_FACT_WORD : 0);
                    return;
                }
            }
            addToken(TOKEN_BAD, from, 0);
        }

        private static boolean isWord(Tape tape, int from, int stop, String word) {
            if (word.length() != stop - from) {
                return false;
            }
            for (int i = from; i < stop; i++) {
                if (tape.bytes[i] != word.charAt(i - from)) {
                    return false;
                }
            }
            return true;
        }

        /** The facts stand in the order of FACT_AMOUNT and the others. */
        private static String lawWord(int word) {
            switch (word) {
                case 0: return "hold";
                case 1: return "limit";
                case 2: return "fee";
                case 3: return "when";
                case 4: return "or";
                case 5: return "and";
                case 6: return "not";
                case 7: return "amount";
                case 8: return "far";
                case 9: return "rail";
                case 10: return "house";
                case 11: return "weekday";
                case 12: return "book";
                case 13: return "count";
                default: return "";
            }
        }

        /** The facts stand in the order of SIGN_TURN and the others. */
        private static String signWord(int word) {
            switch (word) {
                case 0: return "cry";
                case 3: return "when";
                case 4: return "or";
                case 5: return "and";
                case 6: return "not";
                case 7: return "turn";
                case 8: return "count";
                case 9: return "round";
                case 10: return "match";
                case 11: return "book";
                case 12: return "low";
                case 13: return "far";
                default: return "";
            }
        }
    }

    /** A text as codes that a stack works off: of each line its sum, then its condition. */
    private static final class Script {
        final int[] codes = new int[TAPE];
        final int[] words = new int[LINES];
        final int[] starts = new int[LINES];
        final int[] conditions = new int[LINES];
        final int[] stops = new int[LINES];
        final int[] stack = new int[STACK];
        int lines;
        int length;

        void clear() {
            lines = 0;
            length = 0;
        }

        void add(int code) {
            if (length < codes.length) {
                codes[length] = code;
                length++;
            }
        }

        void openLine(int word) {
            if (lines < LINES) {
                words[lines] = word;
                starts[lines] = length;
            }
        }

        void openCondition() {
            if (lines < LINES) {
                conditions[lines] = length;
            }
        }

        void closeLine() {
            if (lines < LINES) {
                stops[lines] = length;
                lines++;
            }
        }

        void copyFrom(Script other) {
            lines = other.lines;
            length = other.length;
            System.arraycopy(other.codes, 0, codes, 0, TAPE);
            System.arraycopy(other.words, 0, words, 0, LINES);
            System.arraycopy(other.starts, 0, starts, 0, LINES);
            System.arraycopy(other.conditions, 0, conditions, 0, LINES);
            System.arraycopy(other.stops, 0, stops, 0, LINES);
        }

        int firstValue(int word, int[] facts) {
            for (int i = 0; i < lines; i++) {
                if (words[i] == word && isSo(i, facts)) {
                    return run(starts[i], conditions[i], facts);
                }
            }
            return 0;
        }

        boolean anyIsSo(int[] facts) {
            for (int i = 0; i < lines; i++) {
                if (isSo(i, facts)) {
                    return true;
                }
            }
            return false;
        }

        private boolean isSo(int line, int[] facts) {
            boolean none = conditions[line] == stops[line];
            return none || run(conditions[line], stops[line], facts) != 0;
        }

        private int run(int from, int stop, int[] facts) {
            int top = 0;
            for (int i = from; i < stop; i++) {
                int code = codes[i];
                if (code >= LAST_FACT) {
                    if (top >= STACK) {
                        return 0;
                    }
                    stack[top] = code >= 0 ? code : facts[-1 - code];
                    top++;
                    continue;
                }
                int taken = code == DO_NOT ? 1 : 2;
                if (top < taken) {
                    return 0;
                }
                int right = stack[top - 1];
                top -= taken;
                int left = stack[top];
                switch (code) {
                    case DO_ADD: left += right; break;
                    case DO_SUBTRACT: left -= right; break;
                    case DO_MULTIPLY: left *= right; break;
                    case DO_DIVIDE: left = right == 0 ? 0 : left / right; break;
                    case DO_LESS: left = left < right ? 1 : 0; break;
                    case DO_EQUAL: left = left == right ? 1 : 0; break;
                    case DO_GREATER: left = left > right ? 1 : 0; break;
                    case DO_NOT: left = 1 - right; break;
                    case DO_AND: left &= right; break;
                    default: left |= right; break;
                }
                stack[top] = left;
                top++;
            }
            return top > 0 ? stack[0] : 0;
        }
    }

    // ---- what does not move by itself: towns, rails, the calendar, laws

    private static final class Country {
        final int[] towns = new int[BANKS];
        final int[] rails = new int[TOWNS * TOWNS];
        final int[] closed = new int[DAYS];
        final int[] snow = new int[DAYS];
        final Script[] scripts = new Script[TEXTS];
        /** A day of snow that is only thought of, or none. */
        int thoughtSnow = NONE;

        Country() {
            for (int a = 0; a < TOWNS; a++) {
                for (int b = 0; b < TOWNS; b++) {
                    rails[a * TOWNS + b] = a == b ? 0 : 2;
                }
            }
            for (int k = 0; k < TEXTS; k++) {
                scripts[k] = new Script();
            }
        }

        void copyFrom(Country other) {
            System.arraycopy(other.towns, 0, towns, 0, BANKS);
            System.arraycopy(other.rails, 0, rails, 0, TOWNS * TOWNS);
            System.arraycopy(other.closed, 0, closed, 0, DAYS);
            System.arraycopy(other.snow, 0, snow, 0, DAYS);
            for (int k = 0; k < TEXTS; k++) {
                scripts[k].copyFrom(other.scripts[k]);
            }
        }

        /** Days above the last one are neither closed nor of snow, but have their Sundays. */
        boolean isBusiness(int day) {
            if (day < 0 || day % WEEK == SUNDAY) {
                return false;
            }
            return day >= DAYS || closed[day] == 0;
        }

        boolean hasSnow(int day) {
            return day == thoughtSnow || (isDay(day) && snow[day] == 1);
        }

        boolean areFar(int bank, int other) {
            return towns[bank] != towns[other];
        }

        int railBetween(int bank, int other) {
            return rails[towns[bank] * TOWNS + towns[other]];
        }

        int flightDays(int at, int on, int day) {
            int trains = railBetween(at, on);
            for (int n = 1; n < LONGEST_FLIGHT; n++) {
                if (trains > 0 && !hasSnow(day + n)) {
                    trains--;
                }
                if (trains == 0 && isBusiness(day + n)) {
                    return n;
                }
            }
            return LONGEST_FLIGHT;
        }
    }

    // ---- books and cheques: what mornings change, really or in thought

    private static final class Ledger {
        final Country country;
        /** None in thought, where nothing is entered. */
        final Entries entries;
        final int[] rows = new int[CHEQUES * CHEQUE_ROW];
        final int[] books = new int[BOOKS];
        final int[] cash = new int[BOOKS];
        final int[] fees = new int[BOOKS];
        final int[] asked = new int[CHEQUES];
        final int[] facts = new int[FACTS];
        int now;
        int count;

        Ledger(Country ofCountry, Entries ofEntries) {
            country = ofCountry;
            entries = ofEntries;
        }

        void copyFrom(Ledger other) {
            now = other.now;
            count = other.count;
            System.arraycopy(other.rows, 0, rows, 0, CHEQUES * CHEQUE_ROW);
            System.arraycopy(other.books, 0, books, 0, BOOKS);
            System.arraycopy(other.cash, 0, cash, 0, BOOKS);
            System.arraycopy(other.fees, 0, fees, 0, BOOKS);
        }

        int part(int k, int what) {
            return rows[k * CHEQUE_ROW + what];
        }

        private void put(int k, int what, int value) {
            rows[k * CHEQUE_ROW + what] = value;
        }

        boolean isInFlight(int k) {
            int state = part(k, STATE);
            return state == ON_WAY || state == GOING_BACK;
        }

        boolean isPaidIn(int k, int house, int bank) {
            return part(k, PAYEE) == house && part(k, AT) == bank;
        }

        boolean isOfLastWeek(int day) {
            return day > now - WEEK && day <= now;
        }

        int held(int house, int bank) {
            int sum = 0;
            for (int k = 0; k < count; k++) {
                boolean isHeld = now < part(k, PAID_IN_DAY) + part(k, HOLD_DAYS);
                if (isHeld && part(k, STATE) != CAME_BACK && isPaidIn(k, house, bank)) {
                    sum += part(k, AMOUNT);
                }
            }
            return sum;
        }

        int usable(int house, int bank) {
            return books[house * BANKS + bank] - held(house, bank);
        }

        int paidInLately(int house, int bank) {
            int n = 0;
            for (int k = 0; k < count; k++) {
                if (isPaidIn(k, house, bank) && isOfLastWeek(part(k, PAID_IN_DAY))) {
                    n++;
                }
            }
            return n;
        }

        /** For cash the other bank is the bank itself: within one town rail and far are 0. */
        int lawValue(int word, int house, int bank, int other, int amount, int weekday) {
            facts[FACT_AMOUNT] = amount;
            facts[FACT_FAR] = country.areFar(bank, other) ? 1 : 0;
            facts[FACT_RAIL] = country.railBetween(bank, other);
            facts[FACT_HOUSE] = house;
            facts[FACT_WEEKDAY] = weekday;
            facts[FACT_BOOK] = books[house * BANKS + bank];
            facts[FACT_COUNT] = paidInLately(house, bank);
            int most = word == HOLD ? MOST_HOLD : word == LIMIT ? MOST_LIMIT : MOST_FEE;
            return Math.max(0, Math.min(most, country.scripts[bank].firstValue(word, facts)));
        }

        void change(int house, int bank, int kind, int k, int by) {
            int place = house * BANKS + bank;
            books[place] += by;
            if (entries != null) {
                entries.add(now, place, kind, k, by, books[place]);
            }
        }

        int takeIn(int house, int on, int to, int at, int amount) {
            if (count >= CHEQUES) {
                return NONE;
            }
            int hold = lawValue(HOLD, to, at, on, amount, now % WEEK);
            int k = count;
            count++;
            put(k, DRAWER, house);
            put(k, ON, on);
            put(k, PAYEE, to);
            put(k, AT, at);
            put(k, AMOUNT, amount);
            put(k, PAID_IN_DAY, now);
            put(k, STATE, ON_WAY);
            put(k, TRAINS, country.railBetween(at, on));
            put(k, HOLD_DAYS, hold);
            put(k, ASKED_DAY, NONE);
            change(to, at, PAID_IN_ENTRY, k, amount);
            return k;
        }

        /** The next day's morning: how many cheques were returned. */
        int morning(int order) {
            now++;
            rideTrains();
            if (!country.isBusiness(now)) {
                return 0;
            }
            comeBack();
            int returned = 0;
            for (int bank = 0; bank < BANKS; bank++) {
                int n = listAsked(bank, order);
                for (int i = 0; i < n; i++) {
                    if (!askFor(asked[i])) {
                        returned++;
                    }
                }
            }
            return returned;
        }

        private void rideTrains() {
            if (country.hasSnow(now)) {
                return;
            }
            for (int k = 0; k < count; k++) {
                if (isInFlight(k) && part(k, TRAINS) > 0) {
                    put(k, TRAINS, part(k, TRAINS) - 1);
                }
            }
        }

        private void comeBack() {
            for (int k = 0; k < count; k++) {
                if (part(k, STATE) == GOING_BACK && part(k, TRAINS) == 0) {
                    put(k, STATE, CAME_BACK);
                    change(part(k, PAYEE), part(k, AT), COME_BACK_ENTRY, k, -part(k, AMOUNT));
                }
            }
        }

        private int listAsked(int bank, int order) {
            int n = 0;
            for (int k = 0; k < count; k++) {
                boolean isThere = part(k, STATE) == ON_WAY && part(k, TRAINS) == 0;
                if (!isThere || part(k, ON) != bank) {
                    continue;
                }
                int place = n;
                while (place > 0 && isAhead(k, asked[place - 1], order)) {
                    asked[place] = asked[place - 1];
                    place--;
                }
                asked[place] = k;
                n++;
            }
            return n;
        }

        /** Whether k, of a higher number than the other, is asked for ahead of it all the same. */
        private boolean isAhead(int k, int other, int order) {
            switch (order) {
                case GREATEST_FIRST:
                    return part(k, AMOUNT) > part(other, AMOUNT);
                case LEAST_FIRST:
                    return part(k, AMOUNT) < part(other, AMOUNT);
                case BY_HOUSE:
                    return part(k, DRAWER) < part(other, DRAWER);
                default:
                    return false;
            }
        }

        /** Whether it is paid. */
        private boolean askFor(int k) {
            int house = part(k, DRAWER);
            int bank = part(k, ON);
            int other = part(k, AT);
            int amount = part(k, AMOUNT);
            put(k, ASKED_DAY, now);
            int limit = lawValue(LIMIT, house, bank, other, amount, now % WEEK);
            if (usable(house, bank) + limit >= amount) {
                put(k, STATE, PAID);
                change(house, bank, PAID_ENTRY, k, -amount);
                return true;
            }
            int fee = lawValue(FEE, house, bank, other, amount, now % WEEK);
            put(k, STATE, GOING_BACK);
            put(k, TRAINS, country.railBetween(bank, other));
            // a fee of 0 changes no book, so it is no entry
            if (fee > 0) {
                fees[house * BANKS + bank] += fee;
                change(house, bank, FEE_ENTRY, k, -fee);
            }
            return false;
        }

        int booksOf(int house) {
            int sum = 0;
            for (int bank = 0; bank < BANKS; bank++) {
                sum += books[house * BANKS + bank];
            }
            return sum;
        }

        int waterOf(int house) {
            int sum = 0;
            for (int k = 0; k < count; k++) {
                if (part(k, STATE) == ON_WAY && part(k, DRAWER) == house) {
                    sum += part(k, AMOUNT);
                }
                if (part(k, STATE) == GOING_BACK && part(k, PAYEE) == house) {
                    sum += part(k, AMOUNT);
                }
            }
            return sum;
        }

        int sumInFlight() {
            int sum = 0;
            for (int k = 0; k < count; k++) {
                sum += isInFlight(k) ? part(k, AMOUNT) : 0;
            }
            return sum;
        }

        int countInFlight() {
            int n = 0;
            for (int k = 0; k < count; k++) {
                n += isInFlight(k) ? 1 : 0;
            }
            return n;
        }

        int lossOf(int bank) {
            int loss = 0;
            for (int house = 0; house < HOUSES; house++) {
                loss += Math.max(0, -books[house * BANKS + bank]);
            }
            return loss;
        }

        int lossOfAll() {
            int loss = 0;
            for (int bank = 0; bank < BANKS; bank++) {
                loss += lossOf(bank);
            }
            return loss;
        }

        int restsOn(int k) {
            for (int below = k - 1; below >= 0; below--) {
                boolean isThere = isPaidIn(below, part(k, DRAWER), part(k, ON));
                if (isThere && part(below, STATE) != CAME_BACK) {
                    return below;
                }
            }
            return NONE;
        }

        /** What of a book can be told without the bank's own books. */
        int provenBook(int house, int bank) {
            int sum = cash[house * BANKS + bank] - fees[house * BANKS + bank];
            for (int k = 0; k < count; k++) {
                if (part(k, STATE) != PAID) {
                    continue;
                }
                if (part(k, DRAWER) == house && part(k, ON) == bank) {
                    sum -= part(k, AMOUNT);
                }
                if (isPaidIn(k, house, bank) && part(k, ON) != bank) {
                    sum += part(k, AMOUNT);
                }
            }
            return sum;
        }
    }

    private static final class Entries {
        final int[] rows = new int[ENTRIES * ENTRY_ROW];
        int count;

        void add(int day, int place, int kind, int k, int by, int behind) {
            if (count >= ENTRIES) {
                return;
            }
            int row = count * ENTRY_ROW;
            rows[row] = day;
            rows[row + 1] = place / BANKS;
            rows[row + 2] = place % BANKS;
            rows[row + 3] = kind;
            rows[row + 4] = k;
            rows[row + 5] = by;
            rows[row + 6] = behind;
            count++;
        }

        void copyFrom(Entries other) {
            count = other.count;
            System.arraycopy(other.rows, 0, rows, 0, ENTRIES * ENTRY_ROW);
        }
    }

    /** All that an image holds. */
    private static final class World {
        final Country country = new Country();
        final Entries entries = new Entries();
        final Ledger ledger = new Ledger(country, entries);
        final int[] kept = new int[DAYS * HOUSES * KEPT_ROW];
        final int[] firstCries = new int[BOOKS];
        final int[] payAmounts = new int[PAYMENTS];
        final int[] payTowns = new int[PAYMENTS];
        int payments;
        int kiters;

        World() {
            for (int i = 0; i < BOOKS; i++) {
                firstCries[i] = NONE;
            }
        }

        void copyFrom(World other) {
            country.copyFrom(other.country);
            entries.copyFrom(other.entries);
            ledger.copyFrom(other.ledger);
            System.arraycopy(other.kept, 0, kept, 0, DAYS * HOUSES * KEPT_ROW);
            System.arraycopy(other.firstCries, 0, firstCries, 0, BOOKS);
            System.arraycopy(other.payAmounts, 0, payAmounts, 0, PAYMENTS);
            System.arraycopy(other.payTowns, 0, payTowns, 0, PAYMENTS);
            payments = other.payments;
            kiters = other.kiters;
        }

        boolean isKiter(int house) {
            return ((kiters >> house) & 1) == 1;
        }

        void keep() {
            if (!isDay(ledger.now)) {
                return;
            }
            for (int house = 0; house < HOUSES; house++) {
                int row = (ledger.now * HOUSES + house) * KEPT_ROW;
                kept[row] = ledger.booksOf(house);
                kept[row + 1] = kept[row] - ledger.waterOf(house);
                for (int bank = 0; bank < BANKS; bank++) {
                    kept[row + 2 + bank] = ledger.books[house * BANKS + bank];
                }
            }
        }

        int keptAt(int day, int house, int banks) {
            int sum = 0;
            for (int bank = 0; bank < BANKS; bank++) {
                if (((banks >> bank) & 1) == 1) {
                    sum += kept[(day * HOUSES + house) * KEPT_ROW + 2 + bank];
                }
            }
            return sum;
        }
    }

    // ---- signs

    private static final class Watch {
        final World world;
        final int[] facts = new int[FACTS];

        Watch(World ofWorld) {
            world = ofWorld;
        }

        boolean criesFor(int house, int banks) {
            gather(house, banks);
            return world.country.scripts[SIGNS].anyIsSo(facts);
        }

        int cryingHouses(int banks) {
            int set = 0;
            for (int house = 0; house < HOUSES; house++) {
                if (criesFor(house, banks)) {
                    set |= 1 << house;
                }
            }
            return set;
        }

        /** Looked for behind each morning: once found, the first day stays. */
        void lookAlone() {
            for (int house = 0; house < HOUSES; house++) {
                for (int bank = 0; bank < BANKS; bank++) {
                    int place = house * BANKS + bank;
                    if (world.firstCries[place] == NONE && criesFor(house, 1 << bank)) {
                        world.firstCries[place] = world.ledger.now;
                    }
                }
            }
        }

        int turnOf(int house, int banks) {
            int turn = 0;
            for (int k = 0; k < world.ledger.count; k++) {
                if (isAmong(k, house, banks)) {
                    turn += world.ledger.part(k, AMOUNT);
                }
            }
            return turn;
        }

        void gather(int house, int banks) {
            Ledger ledger = world.ledger;
            for (int i = 0; i < FACTS; i++) {
                facts[i] = 0;
            }
            for (int k = 0; k < ledger.count; k++) {
                if (isAmong(k, house, banks)) {
                    int amount = ledger.part(k, AMOUNT);
                    int at = ledger.part(k, AT);
                    facts[SIGN_TURN] += amount;
                    facts[SIGN_COUNT]++;
                    facts[SIGN_ROUND] += amount % 100 == 0 ? 1 : 0;
                    facts[SIGN_MATCH] += hasMatch(house, at, amount) ? 1 : 0;
                    facts[SIGN_FAR] += world.country.areFar(at, ledger.part(k, ON)) ? 1 : 0;
                }
            }
            for (int bank = 0; bank < BANKS; bank++) {
                if (((banks >> bank) & 1) == 1) {
                    facts[SIGN_BOOK] += ledger.books[house * BANKS + bank];
                }
            }
            facts[SIGN_LOW] = lowOf(house, banks, facts[SIGN_BOOK]);
        }

        private boolean isAmong(int k, int house, int banks) {
            Ledger ledger = world.ledger;
            boolean isThere = ((banks >> ledger.part(k, AT)) & 1) == 1;
            boolean isPaidIn = isThere && ledger.part(k, PAYEE) == house;
            return isPaidIn && ledger.isOfLastWeek(ledger.part(k, PAID_IN_DAY));
        }

        private boolean hasMatch(int house, int bank, int amount) {
            Ledger ledger = world.ledger;
            for (int k = 0; k < ledger.count; k++) {
                boolean isDrawn = ledger.part(k, DRAWER) == house && ledger.part(k, ON) == bank;
                boolean isPaid = isDrawn && ledger.part(k, STATE) == PAID;
                if (isPaid && ledger.isOfLastWeek(ledger.part(k, ASKED_DAY))
                        && Math.abs(ledger.part(k, AMOUNT) - amount) <= amount / 10) {
                    return true;
                }
            }
            return false;
        }

        /** The first day is not kept: on it alone there is none, and the books as they are count. */
        private int lowOf(int house, int banks, int book) {
            int now = world.ledger.now;
            int first = Math.max(1, now - WEEK + 1);
            int low = book;
            for (int day = first; day <= now; day++) {
                int sum = world.keptAt(day, house, banks);
                if (day == first || sum < low) {
                    low = sum;
                }
            }
            return low;
        }
    }

    // ---- rings and ways: all of them, counted through as figures of base 4

    private static final class Rings {
        /** What the cheque on one bank (rows), paid in at another, holds up. */
        final int[] heldUp = new int[BANKS * BANKS];
        final int[] order = new int[BANKS];
        int most;
        int mostRing;

        void search(int k) {
            most = NONE;
            mostRing = NONE;
            if (k < FEWEST_IN_RING || k > BANKS) {
                return;
            }
            int codes = 1 << (2 * k);
            for (int code = 0; code < codes; code++) {
                if (unfold(code, k)) {
                    int sum = 0;
                    int ring = 0;
                    for (int i = 0; i < k; i++) {
                        sum += heldUp[order[i] * BANKS + order[(i + 1) % k]];
                        ring = ring * 10 + order[i];
                    }
                    if (sum > most) {
                        most = sum;
                        mostRing = ring;
                    }
                }
            }
        }

        /** Whether the banks of this code are unlike ones. */
        private boolean unfold(int code, int k) {
            int met = 0;
            for (int i = 0; i < k; i++) {
                order[i] = (code >> (2 * (k - 1 - i))) & 3;
                met |= 1 << order[i];
            }
            return Integer.bitCount(met) == k;
        }
    }

    private static final class Ways {
        final int[] spent = new int[BANKS];
        final int[] usable = new int[BANKS];
        int most;
        int least;
        int mostWay;
        int leastWay;

        /** Whether there is a way at all. */
        boolean search(World world, int house) {
            for (int bank = 0; bank < BANKS; bank++) {
                usable[bank] = world.ledger.usable(house, bank);
            }
            boolean found = false;
            int codes = 1 << (2 * world.payments);
            for (int way = 0; way < codes; way++) {
                if (!isWay(world, way)) {
                    continue;
                }
                int sum = floatOf(world, way);
                if (!found || sum > most) {
                    most = sum;
                    mostWay = way;
                }
                if (!found || sum < least) {
                    least = sum;
                    leastWay = way;
                }
                found = true;
            }
            return found;
        }

        int bankOf(int way, int i, int payments) {
            return (way >> (2 * (payments - 1 - i))) & 3;
        }

        /** A bank on which nothing is drawn is no hindrance, even where less than nothing is usable. */
        private boolean isWay(World world, int way) {
            for (int bank = 0; bank < BANKS; bank++) {
                spent[bank] = 0;
            }
            for (int i = 0; i < world.payments; i++) {
                int bank = bankOf(way, i, world.payments);
                spent[bank] += world.payAmounts[i];
                if (spent[bank] > usable[bank]) {
                    return false;
                }
            }
            return true;
        }

        private int floatOf(World world, int way) {
            int sum = 0;
            for (int i = 0; i < world.payments; i++) {
                int town = world.country.towns[bankOf(way, i, world.payments)];
                sum += world.payAmounts[i] * world.country.rails[world.payTowns[i] * TOWNS + town];
            }
            return sum;
        }
    }
}
