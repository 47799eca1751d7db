/** Sheets that are read from either side, by damp, and against the light; ../shared/DOC.md says what each call does. */
public final class LightSheets {
    public static final int NONE = -1000000, BAD = -1000001, STATE = -1000002, FULL = -1000003;

    private static final int FINDING = -1000010, FAULT = -1000100;
    private static final int NULL = 1, PLACE = 2, KIND = 3, SIZE = 4, STORE = 5;
    private static final int BYTES = 0, SHORTS = 1, INTS = 2, NO_LANE = -1;
    private static final int ROWS = 8, MOST_ITEMS = 40, ALL_ROWS = 255;
    private static final int MOST_BYTES = 400, MOST_FED = 8;
    private static final int MOST_LETTERS = 8, MOST_PLACES = 9, MOST_DAMP = 9, MOST_HOUR = 30;
    private static final int MOST_ACTS = 24, MOST_TRACED = 16, IMAGES = 2;
    private static final int FRONT = 0, BACK = 1, NO_SIDE = -1;
    private static final int ANY = 0, PLAIN = 1, BOLD = 2, THIN = 3, MARK = 4, DRY = 5;
    private static final int ALL_CELLS = 511, COLUMN_0 = 73, COLUMN_1 = 146, COLUMN_2 = 292, LINE_2 = 448;

    private final Row[] rows = new Row[ROWS];
    private final Page[] images = new Page[IMAGES];
    private final PageReader reader = new PageReader();
    private final Page page = new Page();
    private final Acts acts = new Acts();
    private final Asks asks = new Asks();
    private int finding;

    public LightSheets() {
        for (int i = 0; i < rows.length; i++) {
            rows[i] = new Row();
        }
        for (int i = 0; i < images.length; i++) {
            images[i] = new Page();
        }
    }

    // ---- rows

    public int row(int row, int lane, int n) {
        Row made = rowOf(row);
        if (made == null || lane < BYTES || lane > INTS || n > MOST_ITEMS) {
            return BAD;
        }
        if (n < 0) {
            return found(SIZE);
        }
        made.make(lane, n);
        return unfound(n);
    }

    public int set(int row, int i, int v) {
        Row changed = rowOf(row);
        if (changed == null) {
            return BAD;
        }
        if (changed.isMissing()) {
            return found(NULL);
        }
        if (!changed.holds(i, 1)) {
            return found(PLACE);
        }
        changed.store(i, v);
        return unfound(changed.itemAt(i));
    }

    public int copy(int a, int i, int b, int j, int n) {
        Row from = rowOf(a);
        Row to = rowOf(b);
        if (from == null || to == null) {
            return BAD;
        }
        if (from.isMissing() || to.isMissing()) {
            return found(NULL);
        }
        if (from.lane != to.lane) {
            return found(STORE);
        }
        if (!from.holds(i, n) || !to.holds(j, n)) {
            return found(PLACE);
        }
        to.takeItems(from, i, j, n);
        return unfound(n);
    }

    public int drop(int row) {
        Row dropped = rowOf(row);
        if (dropped == null) {
            return BAD;
        }
        if (dropped.isMissing()) {
            return found(NULL);
        }
        int n = dropped.length;
        dropped.makeMissing();
        return unfound(n);
    }

    // ---- pages, acts

    public int feed(long w, int n) {
        if (n < 1 || n > MOST_FED) {
            return BAD;
        }
        return reader.tape.append(w, n) ? reader.tape.length : FULL;
    }

    public int page() {
        if (!reader.readsPage()) {
            return FAULT - reader.faultPlace;
        }
        page.takeAll(reader.draft);
        acts.forgetAll();
        return page.places;
    }

    public int fault() {
        return reader.faultNumber;
    }

    public int write(int side, int place, int letter) {
        if (!page.hasPlace(side, place) || !page.hasLetter(letter)) {
            return BAD;
        }
        int before = page.letterAt(side, place);
        acts.keep(side, place, before);
        page.putLetter(side, place, letter);
        return before;
    }

    public int turn() {
        if (!page.isThere()) {
            return STATE;
        }
        acts.keep(NO_SIDE, 0, 0);
        page.turnOver();
        return page.places;
    }

    public int undo() {
        if (acts.kept == 0) {
            return STATE;
        }
        if (acts.latestSide() == NO_SIDE) {
            page.turnOver();
        } else {
            page.putLetter(acts.latestSide(), acts.latestPlace(), acts.latestLetter());
        }
        acts.forgetLatest();
        return acts.kept;
    }

    public int at(int side, int place) {
        return page.hasPlace(side, place) ? page.letterAt(side, place) : BAD;
    }

    public int letter(int letter, int what) {
        if (!page.hasLetter(letter)) {
            return BAD;
        }
        switch (what) {
            case 0:
                return page.cellsOf(letter);
            case 1:
                return turned(page.cellsOf(letter));
            case 2:
                return page.throughOf(letter);
            default:
                return BAD;
        }
    }

    public int light(int side, int place, int what) {
        if (!page.hasPlace(side, place)) {
            return BAD;
        }
        int shown = page.shownByLight(side, place);
        return what == 0 ? shown : answerOfReading(shown, what - 1);
    }

    public int damp(int side, int place, int hour, int what) {
        if (!page.hasPlace(side, place) || hour < 0 || hour > MOST_HOUR) {
            return BAD;
        }
        return cellsOrReading(page.shownByDamp(side, place, hour), what);
    }

    public int read(int cells, int what) {
        if (!page.isThere()) {
            return STATE;
        }
        return areCells(cells) ? answerOfReading(cells, what) : BAD;
    }

    // ---- foretold

    public int behind(int row, int place) {
        if (page.isThere() && !page.hasPlace(FRONT, place)) {
            return BAD;
        }
        Row third = rowOf(row);
        int refusal = refusalOfLetters(third);
        if (third == null || refusal != 0) {
            return refusal;
        }
        return unfound(page.behindFor(place, third.itemAt(place)));
    }

    public int ways(int row) {
        Row third = rowOf(row);
        int refusal = refusalOfLetters(third);
        if (third == null || refusal != 0) {
            return refusal;
        }
        int ways = 1;
        for (int place = 0; place < page.places; place++) {
            ways *= Integer.bitCount(page.behindFor(place, third.itemAt(place)));
        }
        return unfound(ways);
    }

    public int anew(int row) {
        Row third = rowOf(row);
        int refusal = refusalOfLetters(third);
        if (third == null || refusal != 0) {
            return refusal;
        }
        int sum = 0;
        for (int place = 0; place < page.places; place++) {
            int fewest = page.fewestAnew(place, third.itemAt(place));
            if (fewest == NONE) {
                return unfound(NONE);
            }
            sum += fewest;
        }
        return unfound(sum);
    }

    public int fits(int place, int cells) {
        return page.hasPlace(FRONT, place) && areCells(cells) ? page.fitting(place, cells) : BAD;
    }

    public int harm(int row) {
        Row back = rowOf(row);
        int refusal = refusalOfLetters(back);
        if (back == null || refusal != 0) {
            return refusal;
        }
        return unfound(page.harmOf(back));
    }

    public int leastHarm(int rows) {
        if (!page.isThere()) {
            return STATE;
        }
        if (rows < 0 || rows > ALL_ROWS) {
            return BAD;
        }
        int best = NONE;
        int least = MOST_PLACES + 1;
        for (int i = 0; i < ROWS; i++) {
            Row back = rowOf(i);
            if (hasBit(rows, i) && back != null && page.canBeABack(back) && page.harmOf(back) < least) {
                best = i;
                least = page.harmOf(back);
            }
        }
        return best;
    }

    public int safe(int letter) {
        return page.hasLetter(letter) ? page.behindToRead(letter, letter) : BAD;
    }

    public int over(int a, int b, int what) {
        if (!page.hasLetter(a) || !page.hasLetter(b)) {
            return BAD;
        }
        return cellsOrReading(page.cellsOf(a) | page.cellsOf(b), what);
    }

    public int image(int k) {
        Page kept = imageOf(k);
        if (kept == null) {
            return BAD;
        }
        if (!page.isThere()) {
            return STATE;
        }
        kept.takeAll(page);
        return 1;
    }

    public int restore(int k) {
        Page kept = imageOf(k);
        if (kept == null) {
            return BAD;
        }
        if (!kept.isThere()) {
            return STATE;
        }
        page.takeAll(kept);
        acts.forgetAll();
        return 1;
    }

    // ---- asked

    public int kind(int letter) {
        return page.hasLetter(letter) ? page.kindOf(letter) : BAD;
    }

    public int as(int letter, int kind) {
        if (!page.hasLetter(letter) || kind < ANY || kind > DRY) {
            return BAD;
        }
        return isOfKind(page.kindOf(letter), kind) ? unfound(letter) : found(KIND);
    }

    public int ask(int letter, int what) {
        if (!page.hasLetter(letter) || what < 0 || what > 1) {
            return BAD;
        }
        return asks.answer(page, letter, what);
    }

    public int trace(int i) {
        return asks.traced(i);
    }

    public int count(int what) {
        switch (what) {
            case 0:
                return rowsThere();
            case 1:
                return page.letters;
            case 2:
                return page.places;
            case 3:
                return page.placesLeftAsTheyStand();
            case 4:
                return acts.kept;
            case 5:
                return reader.tape.length;
            default:
                return BAD;
        }
    }

    public int status() {
        return finding;
    }

    // ---- what the calls share

    private Row rowOf(int i) {
        return i >= 0 && i < rows.length ? rows[i] : null;
    }

    private Page imageOf(int k) {
        return k >= 0 && k < images.length ? images[k] : null;
    }

    private int rowsThere() {
        int there = 0;
        for (int i = 0; i < ROWS; i++) {
            Row counted = rowOf(i);
            if (counted != null && !counted.isMissing()) {
                there++;
            }
        }
        return there;
    }

    private int found(int number) {
        finding = number;
        return FINDING - number;
    }

    private int unfound(int answer) {
        finding = 0;
        return answer;
    }

    /** Why a row can't tell a letter for each place; 0 if it can. */
    private int refusalOfLetters(Row told) {
        if (!page.isThere()) {
            return STATE;
        }
        if (told == null) {
            return BAD;
        }
        if (told.isMissing()) {
            return found(NULL);
        }
        if (told.length < page.places) {
            return found(PLACE);
        }
        return page.canBeABack(told) ? 0 : BAD;
    }

    private int cellsOrReading(int cells, int what) {
        switch (what) {
            case 0:
                return cells;
            case 1:
                return page.nearest(cells);
            default:
                return BAD;
        }
    }

    private int answerOfReading(int cells, int what) {
        switch (what) {
            case 0:
                return page.nearest(cells);
            case 1:
                return page.leastOff(cells);
            case 2:
                return page.isDoubt(cells) ? 1 : 0;
            default:
                return BAD;
        }
    }

    private static boolean areCells(int cells) {
        return cells >= 0 && cells <= ALL_CELLS;
    }

    private static boolean hasBit(int bits, int i) {
        return (bits >> i & 1) == 1;
    }

    private static int turned(int cells) {
        return (cells & COLUMN_0) << 2 | cells & COLUMN_1 | (cells & COLUMN_2) >> 2;
    }

    /** Whether what is of the first kind is, by that, of the second too. */
    private static boolean isOfKind(int kind, int asked) {
        boolean isPlain = kind == PLAIN || kind == BOLD || kind == THIN;
        boolean isMark = kind == MARK || kind == DRY;
        return asked == ANY || asked == kind || asked == PLAIN && isPlain || asked == MARK && isMark;
    }

    private static int itemOf(int[] items, int i) {
        return items != null && i >= 0 && i < items.length ? items[i] : 0;
    }

    private static void putItem(int[] items, int i, int v) {
        if (items != null && i >= 0 && i < items.length) {
            items[i] = v;
        }
    }

    private static void copyItems(int[] from, int i, int[] to, int j, int n) {
        if (from == null || to == null || i < 0 || j < 0 || n < 0) {
            return;
        }
        if (n <= from.length - i && n <= to.length - j) {
            System.arraycopy(from, i, to, j, n);
        }
    }

    /** A row that is missing, or has a lane and items. */
    private static final class Row {
        private final int[] items = new int[MOST_ITEMS];
        int lane = NO_LANE;
        int length;

        boolean isMissing() {
            return lane == NO_LANE;
        }

        void make(int newLane, int n) {
            lane = newLane;
            length = n;
            for (int i = 0; i < items.length; i++) {
                items[i] = 0;
            }
        }

        void makeMissing() {
            lane = NO_LANE;
            length = 0;
        }

        boolean holds(int i, int n) {
            return i >= 0 && n >= 0 && i <= length && n <= length - i;
        }

        int itemAt(int i) {
            return itemOf(items, i);
        }

        void store(int i, int v) {
            putItem(items, i, lane == BYTES ? (byte) v : lane == SHORTS ? (short) v : v);
        }

        void takeItems(Row from, int i, int j, int n) {
            copyItems(from.items, i, items, j, n);
        }
    }

    /** The bytes that were fed, and the token of them that is looked at. */
    private static final class Tape {
        private static final int END = 0, NAME = 1, NUMBER = 2, SEMICOLON = 3, SLASH = 4, NO_TOKEN = 5, BLANK = 6;
        private static final int MOST_FIGURES = 3;

        private final int[] bytes = new int[MOST_BYTES];
        int length;
        int token;
        int start;
        private int next;

        boolean append(long w, int n) {
            if (n > MOST_BYTES - length) {
                return false;
            }
            for (int i = n - 1; i >= 0; i--) {
                putItem(bytes, length, (int) (w >> 8 * i & 255));
                length++;
            }
            return true;
        }

        void makeEmpty() {
            length = 0;
        }

        void rewind() {
            next = 0;
            advance();
        }

        void advance() {
            while (next < length && sortOf(itemOf(bytes, next)) == BLANK) {
                next++;
            }
            start = next;
            if (next >= length) {
                token = END;
                return;
            }
            token = sortOf(itemOf(bytes, next));
            next++;
            boolean isRun = token == NAME || token == NUMBER;
            while (isRun && next < length && sortOf(itemOf(bytes, next)) == token) {
                next++;
            }
            if (token == NUMBER && next - start > MOST_FIGURES) {
                token = NO_TOKEN;
            }
        }

        boolean isWord(String word) {
            if (token != NAME || word.length() != next - start) {
                return false;
            }
            for (int i = 0; i < word.length(); i++) {
                if (word.charAt(i) != itemOf(bytes, start + i)) {
                    return false;
                }
            }
            return true;
        }

        int numberTold() {
            int number = 0;
            for (int i = start; i < next; i++) {
                number = 10 * number + itemOf(bytes, i) - '0';
            }
            return number;
        }

        /** What sort of token a byte begins. */
        private static int sortOf(int b) {
            if (b >= 'a' && b <= 'z') {
                return NAME;
            }
            if (b >= '0' && b <= '9') {
                return NUMBER;
            }
            switch (b) {
                case ';':
                    return SEMICOLON;
                case '/':
                    return SLASH;
                case 32:
                case 10:
                    return BLANK;
                default:
                    return NO_TOKEN;
            }
        }
    }

    /** Reads the tape into a draft, for a fault must leave the page as it was. */
    private static final class PageReader {
        private static final int OUT_OF_PLACE = 1, NOT_AS_TOLD = 2, NO_ROOM = 3;

        final Tape tape = new Tape();
        final Page draft = new Page();
        int faultNumber;
        int faultPlace;
        private int taken;

        boolean readsPage() {
            draft.makeEmpty();
            tape.rewind();
            boolean whole = readsLaw() && readsLetters() && readsSheet() && readsEnd();
            tape.makeEmpty();
            return whole;
        }

        private boolean readsLaw() {
            if (!takesWord("law") || !takesNumber(MOST_DAMP)) {
                return false;
            }
            draft.damp = taken;
            return takesSign(Tape.SEMICOLON);
        }

        private boolean readsLetters() {
            for (int i = 0; i < MOST_LETTERS && (i == 0 || tape.isWord("letter")); i++) {
                if (!readsLetter()) {
                    return false;
                }
            }
            return !tape.isWord("letter") || fails(NO_ROOM);
        }

        private boolean readsLetter() {
            if (!takesWord("letter")) {
                return false;
            }
            int kind = sortTold();
            if (kind == ANY) {
                return fails(OUT_OF_PLACE);
            }
            tape.advance();
            if (!takesNumber(ALL_CELLS)) {
                return false;
            }
            draft.addLetter(kind, taken);
            return takesSign(Tape.SEMICOLON);
        }

        private int sortTold() {
            return tape.isWord("plain") ? PLAIN
                : tape.isWord("bold") ? BOLD
                : tape.isWord("thin") ? THIN
                : tape.isWord("mark") ? MARK
                : tape.isWord("dry") ? DRY
                : ANY;
        }

        private boolean readsSheet() {
            return takesWord("sheet") && readsFront() && takesSign(Tape.SLASH)
                && readsBack() && takesSign(Tape.SEMICOLON);
        }

        private boolean readsFront() {
            for (int place = 0; place < MOST_PLACES && tape.token == Tape.NUMBER; place++) {
                if (!takesNumber(draft.letters - 1)) {
                    return false;
                }
                draft.addPlace(taken);
            }
            if (tape.token != Tape.NUMBER) {
                return true;
            }
            return fails(tape.numberTold() < draft.letters ? NO_ROOM : NOT_AS_TOLD);
        }

        private boolean readsBack() {
            for (int place = 0; place < draft.places; place++) {
                if (!takesNumber(draft.letters - 1)) {
                    return false;
                }
                draft.putLetter(BACK, place, taken);
            }
            return true;
        }

        private boolean readsEnd() {
            return tape.token == Tape.END || fails(OUT_OF_PLACE);
        }

        private boolean takesWord(String word) {
            if (!tape.isWord(word)) {
                return fails(OUT_OF_PLACE);
            }
            tape.advance();
            return true;
        }

        private boolean takesSign(int sign) {
            if (tape.token != sign) {
                return fails(OUT_OF_PLACE);
            }
            tape.advance();
            return true;
        }

        private boolean takesNumber(int most) {
            if (tape.token != Tape.NUMBER) {
                return fails(OUT_OF_PLACE);
            }
            taken = tape.numberTold();
            if (taken > most) {
                return fails(NOT_AS_TOLD);
            }
            tape.advance();
            return true;
        }

        private boolean fails(int number) {
            faultNumber = number;
            faultPlace = tape.start;
            return false;
        }
    }

    /** The law, the letters, and the sheet as it lies; without letters it is no page yet. */
    private static final class Page {
        int damp;
        int letters;
        int places;
        private final int[] cells = new int[MOST_LETTERS];
        private final int[] kinds = new int[MOST_LETTERS];
        private final int[] through = new int[MOST_LETTERS];
        private final int[] front = new int[MOST_PLACES];
        private final int[] back = new int[MOST_PLACES];

        boolean isThere() {
            return letters > 0;
        }

        boolean hasLetter(int letter) {
            return letter >= 0 && letter < letters;
        }

        boolean hasPlace(int side, int place) {
            return (side == FRONT || side == BACK) && place >= 0 && place < places;
        }

        void makeEmpty() {
            damp = 0;
            letters = 0;
            places = 0;
        }

        void takeAll(Page other) {
            damp = other.damp;
            letters = other.letters;
            places = other.places;
            copyItems(other.cells, 0, cells, 0, MOST_LETTERS);
            copyItems(other.kinds, 0, kinds, 0, MOST_LETTERS);
            copyItems(other.through, 0, through, 0, MOST_LETTERS);
            copyItems(other.front, 0, front, 0, MOST_PLACES);
            copyItems(other.back, 0, back, 0, MOST_PLACES);
        }

        void addLetter(int kind, int newCells) {
            putItem(kinds, letters, kind);
            putItem(cells, letters, newCells);
            putItem(through, letters, throughFor(kind, newCells));
            letters++;
        }

        void addPlace(int letter) {
            putItem(front, places, letter);
            places++;
        }

        void putLetter(int side, int place, int letter) {
            putItem(side == FRONT ? front : back, place, letter);
        }

        void turnOver() {
            for (int place = 0; place < places; place++) {
                int above = letterAt(FRONT, place);
                putLetter(FRONT, place, letterAt(BACK, place));
                putLetter(BACK, place, above);
            }
        }

        int cellsOf(int letter) {
            return itemOf(cells, letter);
        }

        int kindOf(int letter) {
            return itemOf(kinds, letter);
        }

        int throughOf(int letter) {
            return itemOf(through, letter);
        }

        int letterAt(int side, int place) {
            return itemOf(side == FRONT ? front : back, place);
        }

        int letterBehind(int side, int place) {
            return letterAt(side == FRONT ? BACK : FRONT, places - 1 - place);
        }

        int shownByLight(int side, int place) {
            return shownOf(letterAt(side, place), letterBehind(side, place));
        }

        int shownByDamp(int side, int place, int hour) {
            int behind = letterBehind(side, place);
            int kind = kindOf(behind);
            int from = kind == BOLD ? 0 : kind == THIN ? 2 * damp : damp;
            int above = letterAt(side, place);
            return hour >= from ? shownOf(above, behind) : cellsOf(above);
        }

        int nearest(int seen) {
            int best = 0;
            for (int letter = 1; letter < letters; letter++) {
                if (offOf(letter, seen) < offOf(best, seen)) {
                    best = letter;
                }
            }
            return best;
        }

        int leastOff(int seen) {
            return offOf(nearest(seen), seen);
        }

        boolean isDoubt(int seen) {
            int least = leastOff(seen);
            int asNear = 0;
            for (int letter = 0; letter < letters; letter++) {
                if (offOf(letter, seen) == least) {
                    asNear++;
                }
            }
            return asNear > 1;
        }

        /** Letters that, behind the place of the front, make it read as told. */
        int behindFor(int place, int told) {
            return behindToRead(letterAt(FRONT, place), told);
        }

        int behindToRead(int above, int told) {
            int set = 0;
            for (int behind = 0; behind < letters; behind++) {
                if (readOf(above, behind) == told) {
                    set |= 1 << behind;
                }
            }
            return set;
        }

        int fitting(int place, int seen) {
            int set = 0;
            for (int behind = 0; behind < letters; behind++) {
                if (shownOf(letterAt(FRONT, place), behind) == seen) {
                    set |= 1 << behind;
                }
            }
            return set;
        }

        int fewestAnew(int place, int told) {
            int fewest = NONE;
            for (int above = 0; above < letters; above++) {
                int set = behindToRead(above, told);
                if (set != 0) {
                    int keptBehind = hasBit(set, letterBehind(FRONT, place)) ? 1 : 0;
                    int keptAbove = above == letterAt(FRONT, place) ? 1 : 0;
                    int anew = 2 - keptBehind - keptAbove;
                    fewest = fewest == NONE ? anew : Math.min(fewest, anew);
                }
            }
            return fewest;
        }

        boolean canBeABack(Row told) {
            if (told.isMissing() || told.length < places) {
                return false;
            }
            for (int i = 0; i < places; i++) {
                if (!hasLetter(told.itemAt(i))) {
                    return false;
                }
            }
            return true;
        }

        int harmOf(Row told) {
            int harmed = 0;
            for (int place = 0; place < places; place++) {
                int above = letterAt(FRONT, place);
                if (readOf(above, told.itemAt(places - 1 - place)) != above) {
                    harmed++;
                }
            }
            return harmed;
        }

        int placesLeftAsTheyStand() {
            int left = 0;
            for (int place = 0; place < places; place++) {
                if (nearest(shownByLight(FRONT, place)) == letterAt(FRONT, place)) {
                    left++;
                }
            }
            return left;
        }

        private int readOf(int above, int behind) {
            return nearest(shownOf(above, behind));
        }

        private int shownOf(int above, int behind) {
            return itemOf(cells, above) | itemOf(through, behind);
        }

        private int offOf(int letter, int seen) {
            return Integer.bitCount(itemOf(cells, letter) ^ seen);
        }

        private static int throughFor(int kind, int cells) {
            switch (kind) {
                case THIN:
                    return turned(cells) & ~LINE_2;
                case MARK:
                    return cells;
                case DRY:
                    return 0;
                default:
                    return turned(cells);
            }
        }
    }

    /** The acts that can be undone, in a ring: of each the side (none: the sheet was turned), and what stood where. */
    private static final class Acts {
        private final int[] sides = new int[MOST_ACTS];
        private final int[] places = new int[MOST_ACTS];
        private final int[] letters = new int[MOST_ACTS];
        private int latest;
        int kept;

        void keep(int side, int place, int letter) {
            latest = latest + 1 < MOST_ACTS ? latest + 1 : 0;
            kept = Math.min(kept + 1, MOST_ACTS);
            putItem(sides, latest, side);
            putItem(places, latest, place);
            putItem(letters, latest, letter);
        }

        int latestSide() {
            return itemOf(sides, latest);
        }

        int latestPlace() {
            return itemOf(places, latest);
        }

        int latestLetter() {
            return itemOf(letters, latest);
        }

        void forgetLatest() {
            latest = latest > 0 ? latest - 1 : MOST_ACTS - 1;
            kept = Math.max(kept - 1, 0);
        }

        void forgetAll() {
            kept = 0;
        }
    }

    /** The asks, and the trace of the bodies that begin in them. */
    private static final class Asks {
        private final int[] begun = new int[MOST_TRACED];
        private int length;

        int answer(Page page, int letter, int what) {
            length = 0;
            boolean isMark = isOfKind(page.kindOf(letter), MARK);
            if (what == 0) {
                return isMark ? sizeOfMark(page, letter) : sizeOfPlain(page, letter);
            }
            return isMark ? markOfMark(page, letter) : markOfPlain(page, letter);
        }

        int traced(int i) {
            return i >= 0 && i < length ? itemOf(begun, i) : NONE;
        }

        private int sizeOfAny(Page page, int letter) {
            begin(10);
            return Integer.bitCount(page.cellsOf(letter));
        }

        private int sizeOfPlain(Page page, int letter) {
            boolean isBold = page.kindOf(letter) == BOLD;
            if (isBold) {
                begin(12);
            }
            begin(11);
            int size = sizeOfAny(page, letter) + markOfPlain(page, letter);
            return isBold ? 0 - size : size;
        }

        private int sizeOfMark(Page page, int letter) {
            boolean isDry = page.kindOf(letter) == DRY;
            if (isDry) {
                begin(14);
            }
            begin(13);
            int size = sizeOfAny(page, letter) - 100;
            return isDry ? 2 * size : size;
        }

        private int markOfAny(int letter) {
            begin(20);
            return letter;
        }

        private int markOfPlain(Page page, int letter) {
            int kind = page.kindOf(letter);
            if (kind == THIN) {
                begin(22);
            } else if (kind == BOLD) {
                begin(24);
            }
            begin(21);
            int mark = markOfAny(letter) + page.cellsOf(letter);
            return kind == THIN ? mark - 1000 : kind == BOLD ? 2 * mark : mark;
        }

        private int markOfMark(Page page, int letter) {
            begin(23);
            return markOfAny(letter) - sizeOfMark(page, letter);
        }

        private void begin(int body) {
            if (length < MOST_TRACED) {
                putItem(begun, length, body);
                length++;
            }
        }
    }
}
