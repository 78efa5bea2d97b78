/** A printed page, put in the order in which it is read. ../shared/DOC.md says what each call answers. */
public final class LaneOrder {
    public static final int NONE = -1, UNKNOWN = -101, OUTSIDE = -102, STATE = -103, FULL = -104;

    private static final int MOST_BOXES = 8;
    private static final int MOST_CUTS = MOST_BOXES - 1;
    private static final int MOST_LANES = 2 * MOST_CUTS;
    private static final int MOST_RULES = 4;
    private static final int MOST_SEEN = 6;
    private static final int MOST_LETTERS = 54;

    private static final int GREATEST_CODE = 126;
    private static final int GREATEST_PUT = 900;
    private static final int GREATEST_STEP = 9;
    private static final int GREATEST_SCALE = 5;
    private static final int GREATEST_NUMBER = 999;
    private static final int GREATEST_TIMES = 20;

    private static final int PLAIN = 0, TITLE = 1, NOTE = 2, FIGURE = 3, CAPTION = 4, KINDS = 5;
    private static final int QUESTIONS = 4;
    private static final int BY_NUMBER = 4, BY_CUT = 5, BY_BINDING = 6;

    // An axis is named by what cut() and lane() tell of it.
    private static final int UPRIGHT = 0, LEVEL = 1;

    private static final int[] STEPS_RIGHT = {-1, 0, 1, 0};
    private static final int[] STEPS_DOWN = {0, -1, 0, 1};

    private final Text text;
    private final Reading current;
    private final Seen seen;
    private final Sheet keptSheet;
    private final Seen keptSeen;
    private boolean imageKept;
    private int pagesRead;

    // What would be is read here, so that no call makes new rows.
    private final Reading trial;
    private final Draws draws;

    public LaneOrder() {
        text = new Text();
        current = new Reading();
        seen = new Seen();
        keptSheet = new Sheet();
        keptSeen = new Seen();
        trial = new Reading();
        draws = new Draws();
    }

    // ---- the page

    public int letter(int code) {
        if (code < 1 || code > GREATEST_CODE) {
            return OUTSIDE;
        }
        if (text.length >= MOST_LETTERS) {
            return FULL;
        }
        text.add(code);
        return text.length;
    }

    public int blank() {
        int had = text.length;
        text.clear();
        return had;
    }

    public int fault() {
        return text.firstFault();
    }

    public int page() {
        if (!text.isPage()) {
            return STATE;
        }
        text.writeTo(current.sheet);
        current.renew();
        text.clear();
        seen.clear();
        imageKept = false;
        pagesRead++;
        return current.sheet.size;
    }

    public int box(int box, int what) {
        Sheet sheet = current.sheet;
        if (!sheet.has(box)) {
            return UNKNOWN;
        }
        switch (what) {
            case 0: return sheet.kind[box];
            case 1: return sheet.left[box];
            case 2: return sheet.top[box];
            case 3: return sheet.right[box];
            case 4: return sheet.bottom[box];
            case 5: return current.place[box];
            case 6: return current.figure[box];
            case 7: return current.depth[box];
            case 8: return seen.sortsOf(box);
            case 9: return seen.nextQuestionFor(box);
            default: return OUTSIDE;
        }
    }

    public int as(int box, int kind) {
        if (!current.sheet.has(box)) {
            return UNKNOWN;
        }
        if (!isKind(kind)) {
            return OUTSIDE;
        }
        return current.sheet.isOfKind(box, kind) ? box : NONE;
    }

    public int order(int place) {
        return place >= 0 && place < current.orderSize ? current.order[place] : UNKNOWN;
    }

    public int cut(int cut, int what) {
        Cuts cuts = current.cuts;
        if (cut < 0 || cut >= cuts.size) {
            return UNKNOWN;
        }
        switch (what) {
            case 0: return cuts.axis[cut];
            case 1: return cuts.at[cut];
            case 2: return cuts.width[cut];
            case 3: return cuts.first[cut];
            case 4: return cuts.second[cut];
            default: return OUTSIDE;
        }
    }

    public int lane(int number, int what) {
        current.gatherLanes(0, current.rowSize);
        Lanes lanes = current.lanes;
        if (number < 0 || number >= lanes.size) {
            return UNKNOWN;
        }
        switch (what) {
            case 0: return lanes.axis[number];
            case 1: return lanes.at[number];
            case 2: return lanes.width[number];
            default: return OUTSIDE;
        }
    }

    public int why(int one, int other) {
        if (!current.sheet.has(one) || !current.sheet.has(other) || one == other) {
            return UNKNOWN;
        }
        int ahead = current.place[one] < current.place[other] ? one : other;
        return 10 * ahead + current.reason(one, other);
    }

    // ---- what is done

    public int put(int left, int top) {
        if (left < 0 || left > GREATEST_PUT || top < 0 || top > GREATEST_PUT) {
            return OUTSIDE;
        }
        if (hasNoPage()) {
            return STATE;
        }
        if (current.sheet.size >= MOST_BOXES) {
            return FULL;
        }
        current.sheet.add(PLAIN, left, top, left + 2, top + 2);
        current.renew();
        return current.sheet.size;
    }

    public int take(int box) {
        if (!current.sheet.has(box)) {
            return UNKNOWN;
        }
        if (current.sheet.size == 1) {
            return STATE;
        }
        current.sheet.remove(box);
        current.renew();
        return current.sheet.size;
    }

    public int move(int box, int right, int down) {
        if (!current.sheet.has(box)) {
            return UNKNOWN;
        }
        if (!isStep(right) || !isStep(down) || !current.sheet.staysInside(box, right, down)) {
            return OUTSIDE;
        }
        current.sheet.shift(box, right, down);
        current.renew();
        return current.cuts.size;
    }

    public int change(int box, int kind) {
        if (!current.sheet.has(box)) {
            return UNKNOWN;
        }
        if (!isKind(kind)) {
            return OUTSIDE;
        }
        int was = current.sheet.kind[box];
        current.sheet.kind[box] = kind;
        current.renew();
        return was;
    }

    public int rules(int digits) {
        if (!areRules(digits)) {
            return OUTSIDE;
        }
        if (hasNoPage()) {
            return STATE;
        }
        current.sheet.takeRules(digits);
        current.renew();
        return current.sheet.ruleCount;
    }

    public int scale(int by) {
        if (by < 1 || by > GREATEST_SCALE || by * current.sheet.greatestNumber() > GREATEST_NUMBER) {
            return OUTSIDE;
        }
        if (hasNoPage()) {
            return STATE;
        }
        current.sheet.stretch(by);
        current.renew();
        return current.sheet.greatestNumber();
    }

    // ---- what would be

    public int without(int box) {
        if (!current.sheet.has(box)) {
            return UNKNOWN;
        }
        trial.sheet.copyWithout(current.sheet, box);
        trial.renew();
        int elsewhere = 0;
        for (int i = 0; i < trial.orderSize && i + 1 < current.orderSize; i++) {
            int now = trial.order[i] < box ? trial.order[i] : trial.order[i] + 1;
            int before = i < current.place[box] ? current.order[i] : current.order[i + 1];
            if (now != before) {
                elsewhere++;
            }
        }
        return elsewhere;
    }

    public int calm() {
        if (hasNoPage()) {
            return STATE;
        }
        int calm = 0;
        for (int box = 0; box < current.sheet.size; box++) {
            for (int way = 0; way < STEPS_RIGHT.length; way++) {
                trial.sheet.copy(current.sheet);
                trial.sheet.shift(box, STEPS_RIGHT[way], STEPS_DOWN[way]);
                trial.renew();
                if (trial.isOrderedLike(current)) {
                    calm++;
                }
            }
        }
        return calm;
    }

    public int idle() {
        if (hasNoPage()) {
            return STATE;
        }
        Sheet sheet = current.sheet;
        if (sheet.ruleCount == 1) {
            return 0;
        }
        int bits = 0;
        for (int i = 0; i < sheet.ruleCount; i++) {
            trial.sheet.copy(sheet);
            trial.sheet.dropRule(i);
            trial.renew();
            if (trial.isOrderedLike(current)) {
                bits |= 1 << sheet.rule[i];
            }
        }
        return bits;
    }

    public int free() {
        if (hasNoPage()) {
            return STATE;
        }
        if (current.sheet.size == 1) {
            return NONE;
        }
        int best = NONE;
        int most = -1;
        for (int box = 0; box < current.sheet.size; box++) {
            trial.sheet.copyWithout(current.sheet, box);
            trial.renew();
            if (trial.cuts.size > most) {
                most = trial.cuts.size;
                best = box;
            }
        }
        return best;
    }

    // ---- what is seen

    public int see(int box, int what, boolean so) {
        if (!current.sheet.has(box)) {
            return UNKNOWN;
        }
        if (what < 0 || what >= QUESTIONS) {
            return OUTSIDE;
        }
        if (seen.size >= MOST_SEEN) {
            return FULL;
        }
        seen.add(box, what, so);
        return seen.size;
    }

    public int forget() {
        int was = seen.size;
        seen.clear();
        return was;
    }

    public int drawn(int times, int seed, int what) {
        if (times < 1 || times > GREATEST_TIMES || seed < 0 || what < 0 || what > 2) {
            return OUTSIDE;
        }
        draws.seed = seed;
        int cuts = 0;
        int byNumber = 0;
        for (int i = 0; i < times; i++) {
            draws.drawTo(trial.sheet);
            trial.renew();
            cuts += trial.cuts.size;
            if (trial.isByNumber()) {
                byNumber++;
            }
        }
        switch (what) {
            case 0: return cuts;
            case 1: return byNumber;
            default: return draws.seed;
        }
    }

    // ---- what is told of all

    public int image() {
        if (hasNoPage()) {
            return STATE;
        }
        keptSheet.copy(current.sheet);
        keptSeen.copy(seen);
        imageKept = true;
        return keptSheet.size;
    }

    public int restore() {
        if (!imageKept) {
            return STATE;
        }
        current.sheet.copy(keptSheet);
        current.renew();
        seen.copy(keptSeen);
        return current.sheet.size;
    }

    public int count(int what) {
        switch (what) {
            case 0: return current.sheet.size;
            case 1: return current.cuts.size;
            case 2: return current.leafCount;
            case 3: return current.sheet.ruleCount;
            case 4: return current.sheet.size - current.rowSize;
            case 5: return seen.size;
            case 6: return text.length;
            case 7: return pagesRead;
            default: return OUTSIDE;
        }
    }

    public long digest() {
        long h = 1429;
        for (int box = 0; box < current.sheet.size; box++) {
            for (int what = 0; what <= 9; what++) {
                h = 31 * h + box(box, what);
            }
        }
        for (int place = 0; place < current.orderSize; place++) {
            h = 31 * h + order(place);
        }
        for (int cut = 0; cut < current.cuts.size; cut++) {
            for (int what = 0; what <= 4; what++) {
                h = 31 * h + cut(cut, what);
            }
        }
        if (!hasNoPage()) {
            h = 31 * h + idle();
            h = 31 * h + free();
        }
        for (int i = 0; i < text.length; i++) {
            h = 31 * h + text.codes[i];
        }
        for (int what = 0; what <= 7; what++) {
            h = 31 * h + count(what);
        }
        return h;
    }

    // ---- what the calls share

    private boolean hasNoPage() {
        return current.sheet.size == 0;
    }

    private static boolean isKind(int kind) {
        return kind >= 0 && kind < KINDS;
    }

    private static boolean isStep(int step) {
        return step >= -GREATEST_STEP && step <= GREATEST_STEP;
    }

    private static boolean areRules(int digits) {
        if (digits < 1 || digits > 9999) {
            return false;
        }
        int told = 0;
        for (int rest = digits; rest > 0; rest /= 10) {
            int digit = rest % 10;
            int bit = 1 << digit;
            if (digit < 1 || digit > MOST_RULES || (told & bit) != 0) {
                return false;
            }
            told |= bit;
        }
        return true;
    }

    /** The letters that came and are not read yet. */
    private static final class Text {
        private static final String KIND_LETTERS = "btnfc";
        // A BOX's letter and digits, and the sign behind them.
        private static final int STRIDE = 6;

        private final int[] codes = new int[MOST_LETTERS];
        private int length;

        void add(int code) {
            if (length < MOST_LETTERS) {
                codes[length] = code;
                length++;
            }
        }

        void clear() {
            length = 0;
        }

        int firstFault() {
            int rulesAt = NONE;
            for (int i = 0; i < length; i++) {
                boolean fits = rulesAt == NONE ? fitsBoxes(i) : fitsRules(i, rulesAt);
                if (!fits) {
                    return i;
                }
                if (codes[i] == ';') {
                    rulesAt = i + 1;
                }
            }
            return length;
        }

        boolean isPage() {
            int rulesAt = rulesPlace();
            return rulesAt != NONE && rulesAt < length && firstFault() == length;
        }

        void writeTo(Sheet sheet) {
            int rulesAt = rulesPlace();
            sheet.clear();
            for (int i = 0; i + STRIDE <= rulesAt; i += STRIDE) {
                sheet.add(kindOf(codes[i]), digitAt(i + 1), digitAt(i + 2), digitAt(i + 3), digitAt(i + 4));
            }
            for (int i = Math.max(rulesAt, 0); i < length; i++) {
                sheet.addRule(digitAt(i));
            }
        }

        private int rulesPlace() {
            for (int i = 0; i < length; i++) {
                if (codes[i] == ';') {
                    return i + 1;
                }
            }
            return NONE;
        }

        private boolean fitsBoxes(int i) {
            int code = codes[i];
            switch (i % STRIDE) {
                case 0: return kindOf(code) != NONE;
                case 1:
                case 2: return code >= '0' && code <= '8';
                case 3:
                case 4: return code <= '9' && code > codes[i - 2];
                default: return code == ';' || code == ',' && i / STRIDE + 1 < MOST_BOXES;
            }
        }

        private boolean fitsRules(int i, int rulesAt) {
            if (codes[i] < '0' || codes[i] > '3') {
                return false;
            }
            for (int j = rulesAt; j < i; j++) {
                if (codes[j] == codes[i]) {
                    return false;
                }
            }
            return true;
        }

        private int digitAt(int i) {
            return i < length ? codes[i] - '0' : 0;
        }

        private static int kindOf(int code) {
            return KIND_LETTERS.indexOf((char) code);
        }
    }

    /** The BOXES by their numbers, and the RULES. */
    private static final class Sheet {
        private final int[] kind = new int[MOST_BOXES];
        private final int[] left = new int[MOST_BOXES];
        private final int[] top = new int[MOST_BOXES];
        private final int[] right = new int[MOST_BOXES];
        private final int[] bottom = new int[MOST_BOXES];
        private int size;
        private final int[] rule = new int[MOST_RULES];
        private int ruleCount;

        void clear() {
            size = 0;
            ruleCount = 0;
        }

        boolean has(int box) {
            return box >= 0 && box < size;
        }

        void copy(Sheet other) {
            System.arraycopy(other.kind, 0, kind, 0, MOST_BOXES);
            System.arraycopy(other.left, 0, left, 0, MOST_BOXES);
            System.arraycopy(other.top, 0, top, 0, MOST_BOXES);
            System.arraycopy(other.right, 0, right, 0, MOST_BOXES);
            System.arraycopy(other.bottom, 0, bottom, 0, MOST_BOXES);
            System.arraycopy(other.rule, 0, rule, 0, MOST_RULES);
            size = other.size;
            ruleCount = other.ruleCount;
        }

        void copyWithout(Sheet other, int box) {
            copy(other);
            remove(box);
        }

        void add(int ofKind, int fromLeft, int fromTop, int toRight, int toBottom) {
            if (size < MOST_BOXES) {
                kind[size] = ofKind;
                left[size] = fromLeft;
                top[size] = fromTop;
                right[size] = toRight;
                bottom[size] = toBottom;
                size++;
            }
        }

        void remove(int box) {
            if (!has(box)) {
                return;
            }
            for (int i = box; i + 1 < size; i++) {
                kind[i] = kind[i + 1];
                left[i] = left[i + 1];
                top[i] = top[i + 1];
                right[i] = right[i + 1];
                bottom[i] = bottom[i + 1];
            }
            size--;
        }

        void shift(int box, int toRight, int down) {
            if (!has(box)) {
                return;
            }
            left[box] += toRight;
            right[box] += toRight;
            top[box] += down;
            bottom[box] += down;
        }

        boolean staysInside(int box, int toRight, int down) {
            return left[box] + toRight >= 0 && right[box] + toRight <= GREATEST_NUMBER
                && top[box] + down >= 0 && bottom[box] + down <= GREATEST_NUMBER;
        }

        int greatestNumber() {
            int greatest = 0;
            for (int box = 0; box < size; box++) {
                greatest = Math.max(greatest, Math.max(right[box], bottom[box]));
            }
            return greatest;
        }

        void stretch(int by) {
            for (int box = 0; box < size; box++) {
                left[box] *= by;
                top[box] *= by;
                right[box] *= by;
                bottom[box] *= by;
            }
        }

        void addRule(int added) {
            if (ruleCount < MOST_RULES) {
                rule[ruleCount] = added;
                ruleCount++;
            }
        }

        void dropRule(int dropped) {
            if (dropped < 0 || dropped >= ruleCount) {
                return;
            }
            for (int i = dropped; i + 1 < ruleCount; i++) {
                rule[i] = rule[i + 1];
            }
            ruleCount--;
        }

        void takeRules(int digits) {
            ruleCount = 0;
            for (int unit = 1000; unit > 0; unit /= 10) {
                int digit = digits / unit % 10;
                if (digit != 0) {
                    // RULE 0 is told as a 4, since a 0 ahead would be lost.
                    addRule(digit % 4);
                }
            }
        }

        boolean isOfKind(int box, int asked) {
            return asked == PLAIN || kind[box] == asked || asked == NOTE && kind[box] == CAPTION;
        }

        /** Of two that a RULE tells apart, the one with the lesser rank is ahead. */
        int rank(int byRule, int box) {
            switch (byRule) {
                case 0: return isOfKind(box, TITLE) ? 0 : 1;
                case 1: return isOfKind(box, NOTE) ? 1 : 0;
                case 2: return top[box];
                default: return left[box];
            }
        }

        int ruleThatTells(int one, int other) {
            for (int i = 0; i < ruleCount; i++) {
                if (rank(rule[i], one) != rank(rule[i], other)) {
                    return rule[i];
                }
            }
            return NONE;
        }

        boolean isAhead(int one, int other) {
            for (int i = 0; i < ruleCount; i++) {
                int ahead = rank(rule[i], other) - rank(rule[i], one);
                if (ahead != 0) {
                    return ahead > 0;
                }
            }
            return one < other;
        }

        int distance(int one, int other) {
            return gap(left[one], right[one], left[other], right[other])
                + gap(top[one], bottom[one], top[other], bottom[other]);
        }

        private static int gap(int begin, int end, int otherBegin, int otherEnd) {
            return Math.max(0, Math.max(otherBegin - end, begin - otherEnd));
        }
    }

    /** LANES, from the one by which a PART is CUT on. */
    private static final class Lanes {
        private final int[] axis = new int[MOST_LANES];
        private final int[] at = new int[MOST_LANES];
        private final int[] width = new int[MOST_LANES];
        private int size;

        void clear() {
            size = 0;
        }

        boolean has(int onAxis, int begin) {
            for (int i = 0; i < size; i++) {
                if (axis[i] == onAxis && at[i] == begin) {
                    return true;
                }
            }
            return false;
        }

        void add(int onAxis, int begin, int wide) {
            if (size >= MOST_LANES) {
                return;
            }
            int place = size;
            for (; place > 0 && isBehind(place - 1, onAxis, begin, wide); place--) {
                axis[place] = axis[place - 1];
                at[place] = at[place - 1];
                width[place] = width[place - 1];
            }
            axis[place] = onAxis;
            at[place] = begin;
            width[place] = wide;
            size++;
        }

        private boolean isBehind(int place, int onAxis, int begin, int wide) {
            if (width[place] != wide) {
                return width[place] < wide;
            }
            return axis[place] != onAxis ? onAxis == LEVEL : at[place] > begin;
        }
    }

    /** CUTS by their numbers. */
    private static final class Cuts {
        private final int[] axis = new int[MOST_CUTS];
        private final int[] at = new int[MOST_CUTS];
        private final int[] width = new int[MOST_CUTS];
        private final int[] first = new int[MOST_CUTS];
        private final int[] second = new int[MOST_CUTS];
        private int size;

        void clear() {
            size = 0;
        }

        void add(int onAxis, int begin, int wide, int onFirst, int onSecond) {
            if (size < MOST_CUTS) {
                axis[size] = onAxis;
                at[size] = begin;
                width[size] = wide;
                first[size] = onFirst;
                second[size] = onSecond;
                size++;
            }
        }
    }

    /** A sheet and how it is read. After a change of the sheet it is to be renewed. */
    private static final class Reading {
        private final Sheet sheet = new Sheet();
        private final int[] order = new int[MOST_BOXES];
        private int orderSize;
        private final int[] place = new int[MOST_BOXES];
        private final int[] figure = new int[MOST_BOXES];
        private final int[] depth = new int[MOST_BOXES];
        private final int[] leaf = new int[MOST_BOXES];
        private int leafCount;
        private final Cuts cuts = new Cuts();
        private final Lanes lanes = new Lanes();
        // The BOXES that are not BOUND: a PART is a run of them.
        private final int[] row = new int[MOST_BOXES];
        private int rowSize;
        private final int[] secondSide = new int[MOST_BOXES];

        void renew() {
            cuts.clear();
            leafCount = 0;
            rowSize = 0;
            for (int box = 0; box < sheet.size; box++) {
                figure[box] = sheet.kind[box] == CAPTION ? nearestFigure(box) : NONE;
                depth[box] = NONE;
                if (figure[box] == NONE) {
                    row[rowSize] = box;
                    rowSize++;
                }
            }
            if (rowSize > 0) {
                readPart(0, rowSize, 0);
            }
            putInOrder();
        }

        int reason(int one, int other) {
            if (figure[one] != NONE || figure[other] != NONE) {
                return BY_BINDING;
            }
            if (leaf[one] != leaf[other]) {
                return BY_CUT;
            }
            int rule = sheet.ruleThatTells(one, other);
            return rule == NONE ? BY_NUMBER : rule;
        }

        boolean isOrderedLike(Reading other) {
            if (orderSize != other.orderSize) {
                return false;
            }
            for (int i = 0; i < orderSize; i++) {
                if (order[i] != other.order[i]) {
                    return false;
                }
            }
            return true;
        }

        boolean isByNumber() {
            for (int i = 0; i < orderSize; i++) {
                if (order[i] != i) {
                    return false;
                }
            }
            return true;
        }

        void gatherLanes(int from, int to) {
            lanes.clear();
            gatherLanesOf(LEVEL, sheet.top, sheet.bottom, from, to);
            gatherLanesOf(UPRIGHT, sheet.left, sheet.right, from, to);
        }

        private void gatherLanesOf(int axis, int[] begins, int[] ends, int from, int to) {
            for (int i = from; i < to; i++) {
                int begin = ends[row[i]];
                int end = nextBegin(begins, ends, begin, from, to);
                if (end > begin && !lanes.has(axis, begin)) {
                    lanes.add(axis, begin, end - begin);
                }
            }
        }

        /** Where the first of those begins that reach beyond a place; that place itself, if none does. */
        private int nextBegin(int[] begins, int[] ends, int beyond, int from, int to) {
            boolean any = false;
            int next = beyond;
            for (int i = from; i < to; i++) {
                int box = row[i];
                if (ends[box] > beyond && (!any || begins[box] < next)) {
                    any = true;
                    next = begins[box];
                }
            }
            return next;
        }

        private void readPart(int from, int to, int deep) {
            gatherLanes(from, to);
            if (lanes.size == 0 || deep >= MOST_CUTS) {
                readLeaf(from, to, deep);
                return;
            }
            int middle = divide(from, to);
            cuts.add(lanes.axis[0], lanes.at[0], lanes.width[0], middle - from, to - middle);
            readPart(from, middle, deep + 1);
            readPart(middle, to, deep + 1);
        }

        /** Brings those of a PART on the first side of its widest LANE ahead of the others: where these begin. */
        private int divide(int from, int to) {
            int[] ends = lanes.axis[0] == LEVEL ? sheet.bottom : sheet.right;
            int middle = from;
            int others = 0;
            for (int i = from; i < to; i++) {
                int box = row[i];
                if (ends[box] <= lanes.at[0]) {
                    row[middle] = box;
                    middle++;
                } else {
                    secondSide[others] = box;
                    others++;
                }
            }
            System.arraycopy(secondSide, 0, row, middle, others);
            return middle;
        }

        private void readLeaf(int from, int to, int deep) {
            for (int i = from; i < to; i++) {
                int box = row[i];
                depth[box] = deep;
                leaf[box] = leafCount;
                int at = i;
                for (; at > from && sheet.isAhead(box, row[at - 1]); at--) {
                    row[at] = row[at - 1];
                }
                row[at] = box;
            }
            leafCount++;
        }

        private int nearestFigure(int caption) {
            int nearest = NONE;
            int least = 0;
            for (int box = 0; box < sheet.size; box++) {
                if (sheet.kind[box] == FIGURE) {
                    int far = sheet.distance(caption, box);
                    if (nearest == NONE || far < least) {
                        nearest = box;
                        least = far;
                    }
                }
            }
            return nearest;
        }

        private void putInOrder() {
            orderSize = 0;
            for (int i = 0; i < rowSize; i++) {
                putNext(row[i]);
                for (int box = 0; box < sheet.size; box++) {
                    if (figure[box] == row[i]) {
                        putNext(box);
                    }
                }
            }
        }

        private void putNext(int box) {
            if (orderSize < MOST_BOXES) {
                order[orderSize] = box;
                place[box] = orderSize;
                orderSize++;
            }
        }
    }

    /** What is SEEN of BOXES of which the KIND is not known. */
    private static final class Seen {
        private static final int ALL_KINDS = (1 << KINDS) - 1;

        private final int[] box = new int[MOST_SEEN];
        private final int[] kinds = new int[MOST_SEEN];
        private int size;

        void clear() {
            size = 0;
        }

        void copy(Seen other) {
            System.arraycopy(other.box, 0, box, 0, MOST_SEEN);
            System.arraycopy(other.kinds, 0, kinds, 0, MOST_SEEN);
            size = other.size;
        }

        void add(int ofBox, int what, boolean so) {
            if (size < MOST_SEEN) {
                box[size] = ofBox;
                kinds[size] = so ? kindsSo(what) : ALL_KINDS & ~kindsSo(what);
                size++;
            }
        }

        int sortsOf(int asked) {
            int sorts = ALL_KINDS;
            for (int i = 0; i < size; i++) {
                if (box[i] == asked) {
                    sorts &= kinds[i];
                }
            }
            return sorts;
        }

        int nextQuestionFor(int asked) {
            int sorts = sortsOf(asked);
            if (sorts == 0) {
                return NONE;
            }
            int best = NONE;
            int fewest = KINDS + 1;
            for (int what = 0; what < QUESTIONS; what++) {
                int ifSo = Integer.bitCount(sorts & kindsSo(what));
                int ifNot = Integer.bitCount(sorts & ~kindsSo(what));
                int atWorst = Math.max(ifSo, ifNot);
                if (atWorst < fewest) {
                    fewest = atWorst;
                    best = what;
                }
            }
            return best;
        }

        /** The KINDS, as bits, of which it is so. */
        private static int kindsSo(int what) {
            switch (what) {
                case 0: return 1 << TITLE;
                case 1: return 1 << NOTE | 1 << CAPTION;
                case 2: return 1 << CAPTION;
                default: return 1 << FIGURE;
            }
        }
    }

    /** DRAWS by a SEED. */
    private static final class Draws {
        private static final int BOXES = 5;

        private int seed;

        void drawTo(Sheet sheet) {
            sheet.clear();
            for (int i = 0; i < BOXES; i++) {
                int left = ofEight();
                int top = ofEight();
                int right = left + 1 + ofThree();
                int bottom = top + 1 + ofThree();
                sheet.add(PLAIN, left, top, right, bottom);
            }
            sheet.addRule(2);
            sheet.addRule(3);
        }

        private int ofEight() {
            step();
            return seed / 65536 % 8;
        }

        private int ofThree() {
            step();
            return seed / 65536 % 3;
        }

        // The rest by 2 to the 31 is what the wrapped product leaves without its sign.
        private void step() {
            seed = 1103515245 * seed + 12345 & 0x7fffffff;
        }
    }
}
