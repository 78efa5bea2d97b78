import java.util.ArrayList;
import java.util.Comparator;
import java.util.HashSet;
import java.util.List;
import java.util.Set;
import java.util.TreeSet;
import java.util.regex.Pattern;

/** The document once more, by its definitions, without regard to cost: what LaneOrder's answers are held against. */
final class Oracle {
    private static final int NONE = -1, UNKNOWN = -101, OUTSIDE = -102, STATE = -103, FULL = -104;
    private static final String LETTERS = "btnfc";
    private static final Pattern PAGE = Pattern.compile("[btnfc][0-9]{4}(,[btnfc][0-9]{4}){0,7};[0-3]{1,4}");

    /** A BOX with a mark that goes with it when numbers change. */
    record Box(int mark, int kind, int left, int top, int right, int bottom) {
        boolean isNote() {
            return kind == 2 || kind == 4;
        }

        Box moved(int x, int y) {
            return new Box(mark, kind, left + x, top + y, right + x, bottom + y);
        }

        Box times(int by) {
            return new Box(mark, kind, left * by, top * by, right * by, bottom * by);
        }

        Box as(int other) {
            return new Box(mark, other, left, top, right, bottom);
        }
    }

    record Lane(boolean level, int at, int width) {
    }

    record Cut(Lane lane, int first, int second) {
    }

    record Sight(int box, int what, boolean so) {
    }

    /** How a row of boxes is read by rules; boxes are named by their places in the row. */
    static final class Layout {
        final List<Integer> order = new ArrayList<>();
        final List<Cut> cuts = new ArrayList<>();
        final List<List<Integer>> leaves = new ArrayList<>();
        final int[] figure;
        final int[] depth;
        final List<Integer> whole = new ArrayList<>();
        private final List<Box> boxes;
        private final List<Integer> rules;

        Layout(List<Box> boxes, List<Integer> rules) {
            this.boxes = boxes;
            this.rules = rules;
            figure = new int[boxes.size()];
            depth = new int[boxes.size()];
            for (int i = 0; i < boxes.size(); i++) {
                figure[i] = boundTo(i);
                depth[i] = NONE;
                if (figure[i] == NONE) {
                    whole.add(i);
                }
            }
            List<Integer> read = whole.isEmpty() ? List.of() : read(whole, 0);
            for (int box : read) {
                order.add(box);
                for (int i = 0; i < boxes.size(); i++) {
                    if (figure[i] == box) {
                        order.add(i);
                    }
                }
            }
        }

        private int boundTo(int caption) {
            if (boxes.get(caption).kind() != 4) {
                return NONE;
            }
            return java.util.stream.IntStream.range(0, boxes.size()).filter(i -> boxes.get(i).kind() == 3).boxed()
                .min(Comparator.comparingInt((Integer i) -> far(boxes.get(caption), boxes.get(i))).thenComparingInt(i -> i))
                .orElse(NONE);
        }

        private static int far(Box a, Box b) {
            int across = a.right() < b.left() ? b.left() - a.right() : b.right() < a.left() ? a.left() - b.right() : 0;
            int down = a.bottom() < b.top() ? b.top() - a.bottom() : b.bottom() < a.top() ? a.top() - b.bottom() : 0;
            return across + down;
        }

        List<Lane> lanesOf(List<Integer> part) {
            Set<Lane> found = new HashSet<>();
            for (int one : part) {
                for (int other : part) {
                    Box a = boxes.get(one);
                    Box b = boxes.get(other);
                    if (a.right() < b.left() && part.stream().map(boxes::get).noneMatch(c -> c.left() < b.left() && c.right() > a.right())) {
                        found.add(new Lane(false, a.right(), b.left() - a.right()));
                    }
                    if (a.bottom() < b.top() && part.stream().map(boxes::get).noneMatch(c -> c.top() < b.top() && c.bottom() > a.bottom())) {
                        found.add(new Lane(true, a.bottom(), b.top() - a.bottom()));
                    }
                }
            }
            List<Lane> lanes = new ArrayList<>(found);
            lanes.sort(Comparator.comparingInt((Lane l) -> -l.width()).thenComparingInt(l -> l.level() ? 0 : 1).thenComparingInt(Lane::at));
            return lanes;
        }

        private List<Integer> read(List<Integer> part, int deep) {
            List<Lane> lanes = lanesOf(part);
            List<Integer> read = new ArrayList<>();
            if (lanes.isEmpty()) {
                read.addAll(part);
                read.sort((a, b) -> ruleBetween(a, b) == 4 ? a - b : difference(ruleBetween(a, b), boxes.get(a), boxes.get(b)));
                leaves.add(read);
                read.forEach(i -> depth[i] = deep);
                return read;
            }
            Lane lane = lanes.get(0);
            List<Integer> first = new ArrayList<>(part);
            first.removeIf(i -> (lane.level() ? boxes.get(i).top() : boxes.get(i).left()) >= lane.at() + lane.width());
            List<Integer> second = new ArrayList<>(part);
            second.removeAll(first);
            cuts.add(new Cut(lane, first.size(), second.size()));
            read.addAll(read(first, deep + 1));
            read.addAll(read(second, deep + 1));
            return read;
        }

        private static int difference(int rule, Box a, Box b) {
            return switch (rule) {
                case 0 -> Boolean.compare(b.kind() == 1, a.kind() == 1);
                case 1 -> Boolean.compare(a.isNote(), b.isNote());
                case 2 -> a.top() - b.top();
                default -> a.left() - b.left();
            };
        }

        private int ruleBetween(int a, int b) {
            return rules.stream().filter(r -> difference(r, boxes.get(a), boxes.get(b)) != 0).findFirst().orElse(4);
        }

        int why(int a, int b) {
            int ahead = order.indexOf(a) < order.indexOf(b) ? a : b;
            if (figure[a] != NONE || figure[b] != NONE) {
                return 10 * ahead + 6;
            }
            boolean together = leaves.stream().anyMatch(leaf -> leaf.contains(a) && leaf.contains(b));
            return 10 * ahead + (together ? ruleBetween(a, b) : 5);
        }

        List<Integer> marks() {
            return order.stream().map(i -> boxes.get(i).mark()).toList();
        }
    }

    private String text = "";
    private List<Box> boxes = new ArrayList<>();
    private List<Integer> rules = new ArrayList<>();
    private List<Sight> seen = new ArrayList<>();
    private List<Box> keptBoxes;
    private List<Integer> keptRules;
    private List<Sight> keptSeen;
    private int pages;

    private Layout layout() {
        return new Layout(boxes, rules);
    }

    private boolean has(int box) {
        return 0 <= box && box < boxes.size();
    }

    int letter(int code) {
        if (code < 1 || code > 126) {
            return OUTSIDE;
        }
        if (text.length() == 54) {
            return FULL;
        }
        text += (char) code;
        return text.length();
    }

    int blank() {
        int had = text.length();
        text = "";
        return had;
    }

    private static boolean isPage(String t) {
        if (!PAGE.matcher(t).matches()) {
            return false;
        }
        int end = t.indexOf(';');
        for (String box : t.substring(0, end).split(",")) {
            if (box.charAt(1) >= box.charAt(3) || box.charAt(2) >= box.charAt(4)) {
                return false;
            }
        }
        String digits = t.substring(end + 1);
        return digits.chars().distinct().count() == digits.length();
    }

    /** Some PAGE begins so, if and only if the most lenient rest makes it one. */
    private static boolean isBegun(String t) {
        if (t.indexOf(';') >= 0) {
            return isPage(t.endsWith(";") ? t + "0" : t);
        }
        return isPage(t + "b0099;0".substring(t.length() % 6));
    }

    int fault() {
        for (int i = 0; i < text.length(); i++) {
            if (!isBegun(text.substring(0, i + 1))) {
                return i;
            }
        }
        return text.length();
    }

    int page() {
        if (!isPage(text)) {
            return STATE;
        }
        int end = text.indexOf(';');
        boxes = new ArrayList<>();
        for (String box : text.substring(0, end).split(",")) {
            boxes.add(new Box(0, LETTERS.indexOf(box.charAt(0)), box.charAt(1) - '0', box.charAt(2) - '0', box.charAt(3) - '0', box.charAt(4) - '0'));
        }
        rules = text.substring(end + 1).chars().map(c -> c - '0').boxed().toList();
        seen = new ArrayList<>();
        keptBoxes = null;
        text = "";
        pages++;
        return boxes.size();
    }

    private int sorts(int box) {
        int bits = 0;
        for (int kind = 0; kind < 5; kind++) {
            boolean can = true;
            for (Sight s : seen) {
                can &= s.box() != box || isSo(kind, s.what()) == s.so();
            }
            bits |= can ? 1 << kind : 0;
        }
        return bits;
    }

    private static boolean isSo(int kind, int what) {
        return switch (what) {
            case 0 -> kind == 1;
            case 1 -> kind == 2 || kind == 4;
            case 2 -> kind == 4;
            default -> kind == 3;
        };
    }

    private int ask(int box) {
        int best = NONE;
        int fewest = 99;
        for (int what = 0; what < 4 && sorts(box) != 0; what++) {
            int[] left = new int[2];
            for (int kind = 0; kind < 5; kind++) {
                if ((sorts(box) >> kind & 1) == 1) {
                    left[isSo(kind, what) ? 1 : 0]++;
                }
            }
            if (Math.max(left[0], left[1]) < fewest) {
                fewest = Math.max(left[0], left[1]);
                best = what;
            }
        }
        return best;
    }

    int box(int box, int what) {
        if (!has(box)) {
            return UNKNOWN;
        }
        Box b = boxes.get(box);
        return switch (what) {
            case 0 -> b.kind();
            case 1 -> b.left();
            case 2 -> b.top();
            case 3 -> b.right();
            case 4 -> b.bottom();
            case 5 -> layout().order.indexOf(box);
            case 6 -> layout().figure[box];
            case 7 -> layout().depth[box];
            case 8 -> sorts(box);
            case 9 -> ask(box);
            default -> OUTSIDE;
        };
    }

    int as(int box, int kind) {
        if (!has(box)) {
            return UNKNOWN;
        }
        if (kind < 0 || kind > 4) {
            return OUTSIDE;
        }
        int is = boxes.get(box).kind();
        return kind == 0 || kind == is || kind == 2 && is == 4 ? box : NONE;
    }

    int order(int place) {
        return has(place) ? layout().order.get(place) : UNKNOWN;
    }

    int cut(int cut, int what) {
        List<Cut> cuts = layout().cuts;
        if (cut < 0 || cut >= cuts.size()) {
            return UNKNOWN;
        }
        Cut c = cuts.get(cut);
        return what == 3 ? c.first() : what == 4 ? c.second() : tell(c.lane(), what);
    }

    private static int tell(Lane lane, int what) {
        return switch (what) {
            case 0 -> lane.level() ? 1 : 0;
            case 1 -> lane.at();
            case 2 -> lane.width();
            default -> OUTSIDE;
        };
    }

    int lane(int number, int what) {
        Layout layout = layout();
        List<Lane> lanes = layout.lanesOf(layout.whole);
        return number < 0 || number >= lanes.size() ? UNKNOWN : tell(lanes.get(number), what);
    }

    int why(int one, int other) {
        return !has(one) || !has(other) || one == other ? UNKNOWN : layout().why(one, other);
    }

    int put(int left, int top) {
        if (left < 0 || left > 900 || top < 0 || top > 900) {
            return OUTSIDE;
        }
        if (boxes.isEmpty()) {
            return STATE;
        }
        if (boxes.size() == 8) {
            return FULL;
        }
        boxes.add(new Box(0, 0, left, top, left + 2, top + 2));
        return boxes.size();
    }

    int take(int box) {
        if (!has(box)) {
            return UNKNOWN;
        }
        if (boxes.size() == 1) {
            return STATE;
        }
        boxes.remove(box);
        return boxes.size();
    }

    int move(int box, int right, int down) {
        if (!has(box)) {
            return UNKNOWN;
        }
        if (right < -9 || right > 9 || down < -9 || down > 9) {
            return OUTSIDE;
        }
        Box then = boxes.get(box).moved(right, down);
        if (then.left() < 0 || then.top() < 0 || then.right() > 999 || then.bottom() > 999) {
            return OUTSIDE;
        }
        boxes.set(box, then);
        return layout().cuts.size();
    }

    int change(int box, int kind) {
        if (!has(box)) {
            return UNKNOWN;
        }
        if (kind < 0 || kind > 4) {
            return OUTSIDE;
        }
        int was = boxes.get(box).kind();
        boxes.set(box, boxes.get(box).as(kind));
        return was;
    }

    int rules(int digits) {
        String told = String.valueOf(digits);
        if (!told.matches("[1-4]{1,4}") || told.chars().distinct().count() != told.length()) {
            return OUTSIDE;
        }
        if (boxes.isEmpty()) {
            return STATE;
        }
        rules = told.chars().map(c -> c == '4' ? 0 : c - '0').boxed().toList();
        return rules.size();
    }

    int scale(int by) {
        if (by < 1 || by > 5) {
            return OUTSIDE;
        }
        int greatest = 0;
        for (Box b : boxes) {
            greatest = Math.max(greatest, by * Math.max(b.right(), b.bottom()));
        }
        if (greatest > 999) {
            return OUTSIDE;
        }
        if (boxes.isEmpty()) {
            return STATE;
        }
        boxes.replaceAll(b -> b.times(by));
        return greatest;
    }

    private List<Box> marked() {
        List<Box> all = new ArrayList<>();
        for (Box b : boxes) {
            all.add(new Box(all.size(), b.kind(), b.left(), b.top(), b.right(), b.bottom()));
        }
        return all;
    }

    private Layout layoutWithout(int box) {
        List<Box> others = marked();
        others.remove(box);
        return new Layout(others, rules);
    }

    int without(int box) {
        if (!has(box)) {
            return UNKNOWN;
        }
        List<Integer> leftOut = new ArrayList<>(layout().order);
        leftOut.remove(Integer.valueOf(box));
        List<Integer> then = layoutWithout(box).marks();
        int elsewhere = 0;
        for (int other : leftOut) {
            if (leftOut.indexOf(other) != then.indexOf(other)) {
                elsewhere++;
            }
        }
        return elsewhere;
    }

    int calm() {
        if (boxes.isEmpty()) {
            return STATE;
        }
        List<Integer> order = layout().order;
        int calm = 0;
        for (int box = 0; box < boxes.size(); box++) {
            for (int[] step : new int[][] {{-1, 0}, {0, -1}, {1, 0}, {0, 1}}) {
                List<Box> then = new ArrayList<>(boxes);
                then.set(box, boxes.get(box).moved(step[0], step[1]));
                calm += new Layout(then, rules).order.equals(order) ? 1 : 0;
            }
        }
        return calm;
    }

    int idle() {
        if (boxes.isEmpty()) {
            return STATE;
        }
        int bits = 0;
        for (int rule : rules) {
            List<Integer> others = rules.stream().filter(r -> r != rule).toList();
            if (!others.isEmpty() && new Layout(boxes, others).order.equals(layout().order)) {
                bits |= 1 << rule;
            }
        }
        return bits;
    }

    int free() {
        if (boxes.isEmpty()) {
            return STATE;
        }
        if (boxes.size() == 1) {
            return NONE;
        }
        TreeSet<Integer> best = new TreeSet<>(Comparator.comparingInt((Integer b) -> -layoutWithout(b).cuts.size()).thenComparingInt(b -> b));
        for (int box = 0; box < boxes.size(); box++) {
            best.add(box);
        }
        return best.first();
    }

    int see(int box, int what, boolean so) {
        if (!has(box)) {
            return UNKNOWN;
        }
        if (what < 0 || what > 3) {
            return OUTSIDE;
        }
        if (seen.size() == 6) {
            return FULL;
        }
        seen.add(new Sight(box, what, so));
        return seen.size();
    }

    int forget() {
        int was = seen.size();
        seen = new ArrayList<>();
        return was;
    }

    private static long next(long seed) {
        return (1103515245L * seed + 12345L) % 2147483648L;
    }

    int drawn(int times, int seed, int what) {
        if (times < 1 || times > 20 || seed < 0 || what < 0 || what > 2) {
            return OUTSIDE;
        }
        long then = seed;
        int cuts = 0;
        int byNumber = 0;
        int[] of = {8, 8, 3, 3};
        for (int i = 0; i < times; i++) {
            List<Box> page = new ArrayList<>();
            for (int b = 0; b < 5; b++) {
                int[] drawn = new int[4];
                for (int d = 0; d < 4; d++) {
                    then = next(then);
                    drawn[d] = (int) (then / 65536 % of[d]);
                }
                page.add(new Box(0, 0, drawn[0], drawn[1], drawn[0] + 1 + drawn[2], drawn[1] + 1 + drawn[3]));
            }
            Layout layout = new Layout(page, List.of(2, 3));
            cuts += layout.cuts.size();
            byNumber += layout.order.equals(List.of(0, 1, 2, 3, 4)) ? 1 : 0;
        }
        return what == 0 ? cuts : what == 1 ? byNumber : (int) then;
    }

    int image() {
        if (boxes.isEmpty()) {
            return STATE;
        }
        keptBoxes = new ArrayList<>(boxes);
        keptRules = rules;
        keptSeen = new ArrayList<>(seen);
        return boxes.size();
    }

    int restore() {
        if (keptBoxes == null) {
            return STATE;
        }
        boxes = new ArrayList<>(keptBoxes);
        rules = keptRules;
        seen = new ArrayList<>(keptSeen);
        return boxes.size();
    }

    int count(int what) {
        Layout layout = layout();
        return switch (what) {
            case 0 -> boxes.size();
            case 1 -> layout.cuts.size();
            case 2 -> layout.leaves.size();
            case 3 -> rules.size();
            case 4 -> boxes.size() - layout.whole.size();
            case 5 -> seen.size();
            case 6 -> text.length();
            case 7 -> pages;
            default -> OUTSIDE;
        };
    }

    long digest() {
        List<Integer> numbers = new ArrayList<>();
        for (int box = 0; box < boxes.size(); box++) {
            for (int what = 0; what <= 9; what++) {
                numbers.add(box(box, what));
            }
        }
        numbers.addAll(layout().order);
        for (Cut c : layout().cuts) {
            numbers.addAll(List.of(tell(c.lane(), 0), tell(c.lane(), 1), tell(c.lane(), 2), c.first(), c.second()));
        }
        if (!boxes.isEmpty()) {
            numbers.add(idle());
            numbers.add(free());
        }
        text.chars().forEach(numbers::add);
        for (int what = 0; what <= 7; what++) {
            numbers.add(count(what));
        }
        long h = 1429;
        for (int number : numbers) {
            h = 31 * h + number;
        }
        return h;
    }
}
