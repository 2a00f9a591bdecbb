/** A tailor who cuts shadows in a street. The document of the project says what each call answers. */
public final class ShadowTailor {
    public static final int BAD = -1, NO = -2, FULL = -3, NONE = -4;

    private static final int FIRST_HOUR = 6, NOON = 12, LAST_HOUR = 18;
    private static final int LAST_CELL = 60;
    private static final int MOST_LETTERS = 200;
    private static final int MOST_NUMBERS = 4;
    private static final int MOST_PERSONS = 6, MOST_WALKS = 9, MOST_LAWS = 6;
    private static final int MOST_REMNANTS = 7, MOST_ORDERS = 3, MOST_FITTINGS = 6;
    private static final int MOST_SEEN = 6, MOST_UNDONE = 8, MOST_KEPT = 2;
    private static final int PATCHED = 1, LENT = 2, SEAMED = 3;
    private static final int PATCH_HOURS = 3;
    private static final int MOST_TAKEN = 20, MOST_LET_OUT = 9;
    /** Told on top of cells that may be below 0. */
    private static final int CELL_SHIFT = 200;
    /** What a cell that is SEEN is told with on top. */
    private static final int SEEN_SHIFT = 40;
    private static final int MOST_SEEN_CELL = 140;
    /** Beyond all cells that a shadow can cover. */
    private static final int NO_CELL = 1000, BELOW_ALL_CELLS = -1000;
    private static final int MOST_CHANCE = 10;
    private static final int LAST_DAY = 9999;
    private static final int MOST_POPLAR = 99, MOST_STROKE = 9;
    private static final int SEAMS = -1, WASTE = -2;
    private static final int LATE = -1, HOURS_LATE = -2;
    private static final String FIRST_TEXT =
        "p10,4,0,0;p16,2,1,0;p30,6,2,3;p33,3,3,1;w1,14,12;l0,8,6;l2,16,9;r5;r3;r8;r2;o6;o9;f2,4;f3,3;f1,6;";

    private final Text text = new Text();
    private final TextReader reader = new TextReader();
    private final Changes changes = new Changes();
    private final Kept kept = new Kept();
    private final Sightings sightings = new Sightings();
    private final Cutting cutting = new Cutting();
    private final Timetable timetable = new Timetable();
    private Shop shop = new Shop();
    /** A text is read into this one, so that what is laid stays as it is if there is a fault. */
    private Shop draft = new Shop();

    public ShadowTailor() {
        text.put(FIRST_TEXT);
        reader.readInto(text, shop);
        text.length = 0;
    }

    // ---- shops

    public int write(int letter) {
        if (letter < 32 || letter > 126) {
            return BAD;
        }
        return text.add((char) letter) ? text.length : FULL;
    }

    public int wipe() {
        int was = text.length;
        text.length = 0;
        return was;
    }

    public int fault() {
        return reader.readInto(text, draft);
    }

    public int lay() {
        if (reader.readInto(text, draft) != NONE || draft.street.persons == 0) {
            return NO;
        }
        Shop former = shop;
        shop = draft;
        draft = former;
        sightings.many = 0;
        changes.many = 0;
        kept.many = 0;
        cutting.isKnown = false;
        timetable.isKnown = false;
        return shop.street.persons;
    }

    public int person(int i, int what) {
        if (!isPerson(i)) {
            return BAD;
        }
        switch (what) {
            case 0:
                return shop.street.height[i];
            case 1:
                return shop.street.kind[i];
            case 2:
                return shop.street.state.taken[i] + MOST_LET_OUT;
            default:
                return BAD;
        }
    }

    public int where(int i, int t) {
        return isPerson(i) && isHour(t) ? shop.street.cellOf(i, t) : BAD;
    }

    public int shadow(int i, int t, int what) {
        if (!isPerson(i) || !isHour(t) || what < 0 || what > 2) {
            return BAD;
        }
        int length = shop.street.lengthOf(i, t);
        if (what == 0) {
            return length;
        }
        if (length == 0) {
            return NONE;
        }
        return CELL_SHIFT + (what == 1 ? shop.street.lowEndOf(i, t) : shop.street.highEndOf(i, t));
    }

    public int covers(int x, int t) {
        return isCell(x) && isHour(t) ? shop.street.coverersOf(x, t) : BAD;
    }

    public int stands(int i, int t) {
        return isPerson(i) && isHour(t) ? standersAt(i, t) : BAD;
    }

    public int wear(int i, int t) {
        if (!isPerson(i) || !isHour(t)) {
            return BAD;
        }
        int together = 0;
        for (int hour = FIRST_HOUR; hour <= t; hour++) {
            together += Integer.bitCount(standersAt(i, hour));
        }
        return together;
    }

    // ---- changes

    public int alter(int i, int c) {
        if (!isPerson(i) || c < 0 || c > MOST_TAKEN + MOST_LET_OUT) {
            return BAD;
        }
        State state = shop.street.state;
        int was = state.taken[i];
        state.taken[i] = c - MOST_LET_OUT;
        changes.add(i, was);
        return was + MOST_LET_OUT;
    }

    public int walk(int i, int t, int x) {
        if (!isPerson(i) || !isHour(t) || !isCell(x)) {
            return BAD;
        }
        if (!shop.street.state.addWalk(i, t, x)) {
            return FULL;
        }
        changes.add(Changes.A_WALK, 0);
        return shop.street.state.walks;
    }

    public int undo() {
        return changes.takeBack(shop.street.state) ? changes.many : NO;
    }

    // ---- what is stood on

    public int first(int what) {
        if (what < 0 || what > 2) {
            return BAD;
        }
        for (int t = FIRST_HOUR; t <= LAST_HOUR; t++) {
            for (int i = 0; i < shop.street.persons; i++) {
                int standers = standersAt(i, t);
                if (standers != 0) {
                    return what == 0 ? t : what == 1 ? i : Integer.numberOfTrailingZeros(standers);
                }
            }
        }
        return NONE;
    }

    public int broken() {
        return shop.street.firstBroken();
    }

    public int taken(int i, int a, int b) {
        if (!isPerson(i) || !areHours(a, b)) {
            return BAD;
        }
        int least = Math.max(shop.street.neededByLaws(i), shop.street.neededByStanders(i, a, b));
        return least <= MOST_TAKEN ? least : NONE;
    }

    // ---- whose

    public int seen(int t, int x) {
        if (!isHour(t) || x < 0 || x > MOST_SEEN_CELL) {
            return BAD;
        }
        return sightings.add(t, x - SEEN_SHIFT) ? sightings.many : FULL;
    }

    public int forget() {
        int were = sightings.many;
        sightings.many = 0;
        return were;
    }

    public int whose() {
        return sightings.suspects(shop.street);
    }

    public int look(int what) {
        if (what < 0 || what > 1) {
            return BAD;
        }
        int suspects = sightings.suspects(shop.street);
        if (suspects == 0) {
            return NONE;
        }
        int bestHour = FIRST_HOUR;
        int fewest = MOST_PERSONS + 1;
        for (int t = FIRST_HOUR; t <= LAST_HOUR; t++) {
            int alike = Sightings.mostAlike(shop.street, suspects, t);
            if (alike < fewest) {
                fewest = alike;
                bestHour = t;
            }
        }
        return what == 0 ? bestHour : fewest;
    }

    // ---- the shop

    public int cut(int r) {
        if (r < WASTE || r >= shop.stock.remnants) {
            return BAD;
        }
        if (!cutting.isKnown) {
            cutting.seek(shop.stock);
        }
        if (!cutting.isFound) {
            return NONE;
        }
        if (r == SEAMS) {
            return cutting.leastUsed - shop.stock.orders;
        }
        return r == WASTE ? cutting.leastLength - shop.stock.orderedLength() : cutting.best[r];
    }

    public int fittings(int k) {
        int many = shop.stock.fittings;
        if (k < HOURS_LATE || k >= Math.max(1, many)) {
            return BAD;
        }
        if (many == 0) {
            return NONE;
        }
        if (!timetable.isKnown) {
            timetable.seek(shop.stock);
        }
        if (k == LATE) {
            return timetable.leastLate;
        }
        return k == HOURS_LATE ? timetable.leastHours : timetable.best[k];
    }

    // ---- the street

    public int watchers(int t, int what) {
        if (!isHour(t) || what < 0 || what > 1) {
            return BAD;
        }
        // The lowest upper end of all is the highest cell by which that shadow is still found;
        // set there, and again so for the shadows above it, the watchers are fewest.
        int lowest = shop.street.nextWatcher(t, BELOW_ALL_CELLS);
        if (lowest == NO_CELL) {
            return NONE;
        }
        if (what == 1) {
            return lowest + CELL_SHIFT;
        }
        int many = 0;
        int cell = lowest;
        for (int n = 0; n < MOST_PERSONS && cell != NO_CELL; n++) {
            many++;
            cell = shop.street.nextWatcher(t, cell);
        }
        return many;
    }

    public int poplar(int n, int m) {
        if (n < 1 || n > MOST_POPLAR || m < 1 || m > MOST_STROKE) {
            return BAD;
        }
        // Who is left with 1 cell, or with m + 1 cells more any number of times, has lost.
        return (n - 1) % (m + 1);
    }

    public int light(int t) {
        if (!isHour(t)) {
            return BAD;
        }
        int lit = 0;
        for (int x = 0; x <= LAST_CELL; x++) {
            if (shop.street.coverersOf(x, t) == 0) {
                lit++;
            }
        }
        return lit;
    }

    public long clouds(int i, int a, int b, int x, int part) {
        if (!isPerson(i) || !areHours(a, b) || x < 0 || x > MOST_CHANCE || part < 0 || part > 1) {
            return BAD;
        }
        int common = commonDivisor(x, MOST_CHANCE);
        long base = (part == 0 ? x : MOST_CHANCE) / common;
        long product = 1;
        for (int t = a; t <= b; t++) {
            if (standersAt(i, t) != 0) {
                product *= base;
            }
        }
        return product;
    }

    public int day(int z, int what) {
        if (z < 0 || z > LAST_DAY || what < 0 || what > 1) {
            return BAD;
        }
        int together = 0;
        int firstHour = NONE;
        for (int t = FIRST_HOUR; t <= LAST_HOUR; t++) {
            int[] cells = shop.street.drawnCells(z, t);
            for (int i = 0; i < shop.street.persons; i++) {
                together += Integer.bitCount(shop.street.standersOn(i, t, cells));
            }
            if (firstHour == NONE && together > 0) {
                firstHour = t;
            }
        }
        return what == 0 ? together : firstHour;
    }

    // ---- kept

    public int keep() {
        return kept.add(shop.street.state) ? kept.many : FULL;
    }

    public int back() {
        if (!kept.restore(shop.street.state)) {
            return NO;
        }
        changes.many = 0;
        return kept.many;
    }

    public int count(int what) {
        switch (what) {
            case 0:
                return shop.street.persons;
            case 1:
                return shop.street.state.walks;
            case 2:
                return shop.street.laws;
            case 3:
                return shop.stock.remnants;
            case 4:
                return shop.stock.orders;
            case 5:
                return shop.stock.fittings;
            case 6:
                return sightings.many;
            case 7:
                return changes.many;
            case 8:
                return kept.many;
            case 9:
                return text.length;
            default:
                return BAD;
        }
    }

    private boolean isPerson(int i) {
        return i >= 0 && i < shop.street.persons;
    }

    private int standersAt(int i, int t) {
        return shop.street.standersOn(i, t, shop.street.cellsAt(t));
    }

    private static boolean isHour(int t) {
        return t >= FIRST_HOUR && t <= LAST_HOUR;
    }

    private static boolean areHours(int a, int b) {
        return isHour(a) && isHour(b) && a <= b;
    }

    private static boolean isCell(int x) {
        return x >= 0 && x <= LAST_CELL;
    }

    private static boolean isWithin(int number, int least, int most) {
        return number >= least && number <= most;
    }

    /** The greatest number from 1 to b that divides a and b. */
    private static int commonDivisor(int a, int b) {
        for (int d = b; d > 1; d--) {
            if (a % d == 0 && b % d == 0) {
                return d;
            }
        }
        return 1;
    }

    /** Letters that come one behind the other. */
    private static final class Text {
        private final char[] signs = new char[MOST_LETTERS];
        private int length;

        boolean add(char sign) {
            if (length >= MOST_LETTERS) {
                return false;
            }
            signs[length] = sign;
            length++;
            return true;
        }

        void put(String all) {
            for (int k = 0; k < all.length(); k++) {
                add(all.charAt(k));
            }
        }

        /** The letter at a place; beyond the end one that no text holds. */
        char signAt(int place) {
            return place >= 0 && place < length ? signs[place] : 0;
        }
    }

    /** Reads a text, item by item, into a shop. */
    private static final class TextReader {
        private final int[] numbers = new int[MOST_NUMBERS];

        /** Where the first item begins that is not as told, or NONE. */
        int readInto(Text text, Shop shop) {
            shop.clear();
            int place = 0;
            for (int n = 0; n < MOST_LETTERS && place < text.length; n++) {
                char letter = text.signAt(place);
                int end = readNumbers(text, place + 1, numbersOf(letter));
                if (end == NONE || !addItem(shop, letter)) {
                    return place;
                }
                place = end;
            }
            return NONE;
        }

        /** How many numbers an item with this letter has; 0 if there is no such item. */
        private static int numbersOf(char letter) {
            switch (letter) {
                case 'p':
                    return 4;
                case 'w':
                case 'l':
                    return 3;
                case 'f':
                    return 2;
                case 'r':
                case 'o':
                    return 1;
                default:
                    return 0;
            }
        }

        /** The place behind the numbers and the ; that ends them, or NONE if they are not as told. */
        private int readNumbers(Text text, int from, int many) {
            if (many < 1 || many > MOST_NUMBERS) {
                return NONE;
            }
            int place = from;
            for (int k = 0; k < many; k++) {
                int tens = figureAt(text, place);
                if (tens == NONE) {
                    return NONE;
                }
                place++;
                int ones = figureAt(text, place);
                if (ones == NONE) {
                    numbers[k] = tens;
                } else {
                    numbers[k] = 10 * tens + ones;
                    place++;
                }
                if (text.signAt(place) != (k == many - 1 ? ';' : ',')) {
                    return NONE;
                }
                place++;
            }
            return place;
        }

        private static int figureAt(Text text, int place) {
            char sign = text.signAt(place);
            return sign >= '0' && sign <= '9' ? sign - '0' : NONE;
        }

        /** Whether the numbers read are such as an item with this letter may have; it is in the shop then. */
        private boolean addItem(Shop shop, char letter) {
            Street street = shop.street;
            Stock stock = shop.stock;
            switch (letter) {
                case 'p':
                    return street.addPerson(numbers[0], numbers[1], numbers[2], numbers[3]);
                case 'w':
                    return street.hasPerson(numbers[0]) && isHour(numbers[1]) && isCell(numbers[2])
                        && street.state.addWalk(numbers[0], numbers[1], numbers[2]);
                case 'l':
                    return street.addLaw(numbers[0], numbers[1], numbers[2]);
                case 'r':
                    return stock.addRemnant(numbers[0]);
                case 'o':
                    return stock.addOrder(numbers[0]);
                case 'f':
                    return stock.addFitting(numbers[0], numbers[1]);
                default:
                    return false;
            }
        }
    }

    /** All that a text tells. */
    private static final class Shop {
        private final Street street = new Street();
        private final Stock stock = new Stock();

        void clear() {
            street.clear();
            stock.clear();
        }
    }

    /** What can be changed and kept: what is taken in (below 0: let out), and the walks. */
    private static final class State {
        private final int[] taken = new int[MOST_PERSONS];
        private final int[] walker = new int[MOST_WALKS];
        private final int[] walkHour = new int[MOST_WALKS];
        private final int[] walkCell = new int[MOST_WALKS];
        private int walks;

        boolean addWalk(int i, int t, int x) {
            if (walks >= MOST_WALKS) {
                return false;
            }
            walker[walks] = i;
            walkHour[walks] = t;
            walkCell[walks] = x;
            walks++;
            return true;
        }

        /** Where the walks lead a person who is at a cell if there are none. */
        int cellAfterWalks(int i, int t, int home) {
            int cell = home;
            int latest = FIRST_HOUR;
            for (int w = 0; w < walks; w++) {
                if (walker[w] == i && walkHour[w] <= t && walkHour[w] >= latest) {
                    latest = walkHour[w];
                    cell = walkCell[w];
                }
            }
            return cell;
        }

        void copyFrom(State other) {
            System.arraycopy(other.taken, 0, taken, 0, MOST_PERSONS);
            System.arraycopy(other.walker, 0, walker, 0, MOST_WALKS);
            System.arraycopy(other.walkHour, 0, walkHour, 0, MOST_WALKS);
            System.arraycopy(other.walkCell, 0, walkCell, 0, MOST_WALKS);
            walks = other.walks;
        }
    }

    /** The persons, their shadows and the laws. */
    private static final class Street {
        private final int[] home = new int[MOST_PERSONS];
        private final int[] height = new int[MOST_PERSONS];
        private final int[] kind = new int[MOST_PERSONS];
        private final State state = new State();
        private final int[] lawFor = new int[MOST_LAWS];
        private final int[] lawHour = new int[MOST_LAWS];
        private final int[] lawLength = new int[MOST_LAWS];
        /** Made once: where all are at the hour that is looked at. */
        private final int[] cells = new int[MOST_PERSONS];
        private int persons;
        private int laws;

        void clear() {
            persons = 0;
            laws = 0;
            state.walks = 0;
        }

        boolean hasPerson(int i) {
            return i >= 0 && i < persons;
        }

        boolean addPerson(int x, int h, int k, int c) {
            if (persons >= MOST_PERSONS || !isCell(x) || !isWithin(h, 1, 9)
                || !isWithin(k, 0, SEAMED) || !isWithin(c, 0, MOST_TAKEN)) {
                return false;
            }
            home[persons] = x;
            height[persons] = h;
            kind[persons] = k;
            state.taken[persons] = c;
            persons++;
            return true;
        }

        boolean addLaw(int i, int t, int n) {
            if (laws >= MOST_LAWS || !hasPerson(i) || !isHour(t) || !isWithin(n, 0, 60)) {
                return false;
            }
            lawFor[laws] = i;
            lawHour[laws] = t;
            lawLength[laws] = n;
            laws++;
            return true;
        }

        int cellOf(int i, int t) {
            return state.cellAfterWalks(i, t, home[i]);
        }

        int[] cellsAt(int t) {
            for (int i = 0; i < persons; i++) {
                cells[i] = cellOf(i, t);
            }
            return cells;
        }

        int[] drawnCells(int z, int t) {
            for (int i = 0; i < persons; i++) {
                long q = 7919L * z + 6151L * t + 3571L * i + 1;
                cells[i] = (int) (q * q % 65521 % 61);
            }
            return cells;
        }

        /** How long a shadow would be if nothing were taken in. */
        int fullLength(int i, int t) {
            int own = height[i] * Math.abs(t - NOON) / 2;
            if (kind[i] == LENT) {
                return 2 * own;
            }
            boolean isLow = t <= FIRST_HOUR + 1 || t >= LAST_HOUR - 1;
            return kind[i] == SEAMED && isLow ? own + 1 : own;
        }

        int lengthOf(int i, int t) {
            return Math.max(0, fullLength(i, t) - state.taken[i]);
        }

        /** -1 if a shadow falls to lower cells, 1 if to higher ones. */
        int wayOf(int i, int t) {
            int hour = kind[i] == PATCHED ? t + PATCH_HOURS : t;
            return hour < NOON ? -1 : 1;
        }

        /** The last cell that a shadow covers; the person's, if it covers none. */
        int endOf(int i, int t) {
            return cellOf(i, t) + wayOf(i, t) * lengthOf(i, t);
        }

        /** The lowest cell of a shadow that covers any. */
        int lowEndOf(int i, int t) {
            return wayOf(i, t) < 0 ? endOf(i, t) : cellOf(i, t) + 1;
        }

        /** The highest cell of a shadow that covers any. */
        int highEndOf(int i, int t) {
            return wayOf(i, t) < 0 ? cellOf(i, t) - 1 : endOf(i, t);
        }

        int coverersOf(int x, int t) {
            int bits = 0;
            for (int i = 0; i < persons; i++) {
                int distance = (x - cellOf(i, t)) * wayOf(i, t);
                if (distance > 0 && distance <= lengthOf(i, t)) {
                    bits |= 1 << i;
                }
            }
            return bits;
        }

        /** Who stands on a shadow, as bits, if all are at these cells. */
        int standersOn(int i, int t, int[] at) {
            int way = wayOf(i, t);
            int length = lengthOf(i, t);
            int bits = 0;
            for (int j = 0; j < persons; j++) {
                int distance = (at[j] - at[i]) * way;
                if (distance > 0 && distance <= length) {
                    bits |= 1 << j;
                }
            }
            return bits;
        }

        int firstBroken() {
            for (int n = 0; n < laws; n++) {
                if (lengthOf(lawFor[n], lawHour[n]) > lawLength[n]) {
                    return n;
                }
            }
            return NONE;
        }

        /** The least to be taken in, so that no law of a shadow is broken. */
        int neededByLaws(int i) {
            int needed = 0;
            for (int n = 0; n < laws; n++) {
                if (lawFor[n] == i) {
                    needed = Math.max(needed, fullLength(i, lawHour[n]) - lawLength[n]);
                }
            }
            return needed;
        }

        /** The least to be taken in, so that a shadow ends ahead of all who are on its way. */
        int neededByStanders(int i, int a, int b) {
            int needed = 0;
            for (int t = a; t <= b; t++) {
                int[] at = cellsAt(t);
                for (int j = 0; j < persons; j++) {
                    int distance = (at[j] - at[i]) * wayOf(i, t);
                    if (distance > 0) {
                        needed = Math.max(needed, fullLength(i, t) - distance + 1);
                    }
                }
            }
            return needed;
        }

        /** The lowest upper end of the shadows that lie wholly above a cell, or NO_CELL. */
        int nextWatcher(int t, int above) {
            int cell = NO_CELL;
            for (int i = 0; i < persons; i++) {
                if (lengthOf(i, t) > 0 && lowEndOf(i, t) > above) {
                    cell = Math.min(cell, highEndOf(i, t));
                }
            }
            return cell;
        }
    }

    /** Remnants, orders and fittings. */
    private static final class Stock {
        private final int[] remnant = new int[MOST_REMNANTS];
        private final int[] order = new int[MOST_ORDERS];
        private final int[] fittingHours = new int[MOST_FITTINGS];
        private final int[] fittingDue = new int[MOST_FITTINGS];
        private int remnants;
        private int orders;
        private int fittings;

        void clear() {
            remnants = 0;
            orders = 0;
            fittings = 0;
        }

        boolean addRemnant(int n) {
            if (remnants >= MOST_REMNANTS || !isWithin(n, 1, 40)) {
                return false;
            }
            remnant[remnants] = n;
            remnants++;
            return true;
        }

        boolean addOrder(int n) {
            if (orders >= MOST_ORDERS || !isWithin(n, 1, 60)) {
                return false;
            }
            order[orders] = n;
            orders++;
            return true;
        }

        boolean addFitting(int t, int d) {
            if (fittings >= MOST_FITTINGS || !isWithin(t, 1, 9) || !isWithin(d, 1, 60)) {
                return false;
            }
            fittingHours[fittings] = t;
            fittingDue[fittings] = d;
            fittings++;
            return true;
        }

        int orderedLength() {
            int sum = 0;
            for (int o = 0; o < orders; o++) {
                sum += order[o];
            }
            return sum;
        }

        int lengthFrom(int firstRemnant) {
            int sum = 0;
            for (int r = firstRemnant; r < remnants; r++) {
                sum += remnant[r];
            }
            return sum;
        }
    }

    /** The latest changes, the oldest first. */
    private static final class Changes {
        private static final int A_WALK = -1;

        private final int[] whom = new int[MOST_UNDONE];
        private final int[] was = new int[MOST_UNDONE];
        private int many;

        /** A change of what is taken in of a person's shadow, or A_WALK. */
        void add(int person, int before) {
            if (many >= MOST_UNDONE) {
                dropOldest();
            }
            whom[many] = person;
            was[many] = before;
            many++;
        }

        private void dropOldest() {
            for (int n = 1; n < many; n++) {
                whom[n - 1] = whom[n];
                was[n - 1] = was[n];
            }
            many--;
        }

        boolean takeBack(State state) {
            if (many == 0) {
                return false;
            }
            many--;
            if (whom[many] == A_WALK) {
                state.walks--;
            } else {
                state.taken[whom[many]] = was[many];
            }
            return true;
        }
    }

    /** The states that are kept, the last one on top. */
    private static final class Kept {
        private final State[] states = new State[MOST_KEPT];
        private int many;

        Kept() {
            for (int n = 0; n < MOST_KEPT; n++) {
                states[n] = new State();
            }
        }

        boolean add(State state) {
            if (many >= MOST_KEPT) {
                return false;
            }
            states[many].copyFrom(state);
            many++;
            return true;
        }

        boolean restore(State state) {
            if (many == 0) {
                return false;
            }
            many--;
            state.copyFrom(states[many]);
            return true;
        }
    }

    /** At which hours the end of a shadow was seen at which cells. */
    private static final class Sightings {
        private final int[] hour = new int[MOST_SEEN];
        private final int[] cell = new int[MOST_SEEN];
        private int many;

        boolean add(int t, int x) {
            if (many >= MOST_SEEN) {
                return false;
            }
            hour[many] = t;
            cell[many] = x;
            many++;
            return true;
        }

        /** By whose shadows all that is seen is so, as bits. */
        int suspects(Street street) {
            int bits = 0;
            for (int i = 0; i < street.persons; i++) {
                if (fits(street, i)) {
                    bits |= 1 << i;
                }
            }
            return bits;
        }

        private boolean fits(Street street, int i) {
            for (int n = 0; n < many; n++) {
                if (street.endOf(i, hour[n]) != cell[n]) {
                    return false;
                }
            }
            return true;
        }

        /** How many of some persons, at the most, have ends that are alike at an hour. */
        static int mostAlike(Street street, int persons, int t) {
            int most = 0;
            for (int i = 0; i < street.persons; i++) {
                int alike = 0;
                for (int j = 0; j < street.persons; j++) {
                    boolean areBoth = (persons >> i & persons >> j & 1) == 1;
                    if (areBoth && street.endOf(i, t) == street.endOf(j, t)) {
                        alike++;
                    }
                }
                most = Math.max(most, alike);
            }
            return most;
        }
    }

    /** Seeks the remnants for the orders; they stay as found until another text is laid. */
    private static final class Cutting {
        private final int[] lack = new int[MOST_ORDERS];
        private final int[] choice = new int[MOST_REMNANTS];
        private final int[] best = new int[MOST_REMNANTS];
        private boolean isKnown;
        private boolean isFound;
        private int leastUsed;
        private int leastLength;

        void seek(Stock stock) {
            isKnown = true;
            isFound = false;
            for (int o = 0; o < stock.orders; o++) {
                lack[o] = stock.order[o];
            }
            for (int r = 0; r < stock.remnants; r++) {
                choice[r] = NONE;
            }
            seekFrom(stock, 0, 0, 0);
        }

        /** Tries all ways for remnant r and those behind it, the first ones first. */
        private void seekFrom(Stock stock, int r, int used, int length) {
            if (isFound && (used > leastUsed || used == leastUsed && length >= leastLength)) {
                return;
            }
            int lacking = lackingLength(stock);
            if (lacking == 0) {
                take(stock, used, length);
                return;
            }
            if (r >= stock.remnants || stock.lengthFrom(r) < lacking) {
                return;
            }
            int cells = stock.remnant[r];
            for (int o = 0; o < stock.orders; o++) {
                // An order that lacks nothing gets no more: without that remnant fewer would be used.
                if (lack[o] > 0) {
                    lack[o] -= cells;
                    choice[r] = o;
                    seekFrom(stock, r + 1, used + 1, length + cells);
                    choice[r] = NONE;
                    lack[o] += cells;
                }
            }
            seekFrom(stock, r + 1, used, length);
        }

        private int lackingLength(Stock stock) {
            int sum = 0;
            for (int o = 0; o < stock.orders; o++) {
                sum += Math.max(0, lack[o]);
            }
            return sum;
        }

        private void take(Stock stock, int used, int length) {
            isFound = true;
            leastUsed = used;
            leastLength = length;
            for (int r = 0; r < stock.remnants; r++) {
                best[r] = choice[r];
            }
        }
    }

    /** Seeks an order of the fittings; it stays as found until another text is laid. */
    private static final class Timetable {
        private final int[] choice = new int[MOST_FITTINGS];
        private final int[] best = new int[MOST_FITTINGS];
        private boolean isKnown;
        private boolean isFound;
        private int leastLate;
        private int leastHours;

        void seek(Stock stock) {
            isKnown = true;
            isFound = false;
            seekFrom(stock, 0, 0, 0, 0, 0);
        }

        /** Tries all fittings that are not done (bits) as the k-th, the first ones first. */
        private void seekFrom(Stock stock, int k, int done, int clock, int late, int hours) {
            if (isFound && (late > leastLate || late == leastLate && hours >= leastHours)) {
                return;
            }
            if (k >= stock.fittings) {
                take(stock, late, hours);
                return;
            }
            for (int f = 0; f < stock.fittings; f++) {
                if ((done >> f & 1) == 0) {
                    choice[k] = f;
                    int end = clock + stock.fittingHours[f];
                    int over = Math.max(0, end - stock.fittingDue[f]);
                    seekFrom(stock, k + 1, done | 1 << f, end, over > 0 ? late + 1 : late, hours + over);
                }
            }
        }

        private void take(Stock stock, int late, int hours) {
            isFound = true;
            leastLate = late;
            leastHours = hours;
            for (int k = 0; k < stock.fittings; k++) {
                best[k] = choice[k];
            }
        }
    }
}
