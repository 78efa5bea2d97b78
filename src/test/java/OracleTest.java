import java.util.Random;

/** Long runs of calls, right and wrong ones, each answer held against the Oracle's. */
public final class OracleTest {
    private static final int RUNS = 1500;
    private static final int CALLS = 240;
    private static final int[] ODD = {-1, -2, 9, 10, 127, 1000, Integer.MIN_VALUE, Integer.MAX_VALUE};

    private final Check check;
    private final Random random;
    private final LaneOrder x = new LaneOrder();
    private final Oracle y = new Oracle();
    private final StringBuilder told = new StringBuilder();

    private OracleTest(Check check, long seed) {
        this.check = check;
        this.random = new Random(seed);
    }

    public static void main(String[] args) {
        Check check = new Check();
        for (int run = 0; run < RUNS && check.isClean(); run++) {
            check.part("run " + run);
            OracleTest test = new OracleTest(check, 4711 + run);
            test.run();
            if (!check.isClean()) {
                System.out.println(test.told);
            }
        }
        check.end("OracleTest");
    }

    private void run() {
        if (random.nextInt(10) > 0) {
            typePage();
            due("page()", x.page(), y.page());
        }
        for (int i = 0; i < CALLS && check.isClean(); i++) {
            call();
        }
        due("digest()", x.digest(), y.digest());
    }

    private void due(String call, long got, long want) {
        told.append(call).append(" -> ").append(got).append('\n');
        check.due(call, got, want);
    }

    private int pick(int bound) {
        return random.nextInt(14) == 0 ? ODD[random.nextInt(ODD.length)] : random.nextInt(bound);
    }

    private void typeText(String text) {
        for (char c : text.toCharArray()) {
            due("letter(" + (int) c + ")", x.letter(c), y.letter(c));
        }
    }

    private String randomPage() {
        StringBuilder page = new StringBuilder();
        int boxes = 1 + random.nextInt(8);
        int longest = 1 + random.nextInt(9);
        String kinds = random.nextBoolean() ? "btnfc" : random.nextBoolean() ? "b" : "bfccn";
        for (int i = 0; i < boxes; i++) {
            int left = random.nextInt(9);
            int top = random.nextInt(9);
            int right = Math.min(9, left + 1 + random.nextInt(longest));
            int bottom = Math.min(9, top + 1 + random.nextInt(longest));
            page.append(i > 0 ? "," : "").append(kinds.charAt(random.nextInt(kinds.length())));
            page.append(left).append(top).append(right).append(bottom);
        }
        String rules = "0123";
        page.append(';');
        for (int i = 1 + random.nextInt(4); i > 0; i--) {
            char rule = rules.charAt(random.nextInt(rules.length()));
            rules = rules.replace(String.valueOf(rule), "");
            page.append(rule);
        }
        return page.toString();
    }

    private void typePage() {
        due("blank()", x.blank(), y.blank());
        typeText(randomPage());
    }

    /** A page with a letter changed, put in or left out. */
    private void typeNearPage() {
        StringBuilder text = new StringBuilder(randomPage());
        String signs = "btnfcx0123456789:/,;";
        char sign = signs.charAt(random.nextInt(signs.length()));
        int at = random.nextInt(text.length());
        switch (random.nextInt(4)) {
            case 0 -> text.setCharAt(at, sign);
            case 1 -> text.insert(at, sign);
            case 2 -> text.deleteCharAt(at);
            default -> text.append(sign);
        }
        due("blank()", x.blank(), y.blank());
        typeText(text.toString());
        due("fault()", x.fault(), y.fault());
        due("page()", x.page(), y.page());
    }

    private void call() {
        int a = pick(8);
        int b = pick(8);
        switch (random.nextInt(40)) {
            case 0 -> due("letter(" + a + ")", x.letter(a), y.letter(a));
            case 1 -> due("blank()", x.blank(), y.blank());
            case 2 -> due("fault()", x.fault(), y.fault());
            case 3 -> nearOrWholePage();
            case 4, 5 -> boxOf(a, pick(10));
            case 6 -> asOf(a, pick(5));
            case 7, 8 -> due("order(" + a + ")", x.order(a), y.order(a));
            case 9, 10 -> cutOf(pick(5), pick(5));
            case 11, 12 -> laneOf(pick(5), pick(3));
            case 13, 14, 15 -> due("why(" + a + ", " + b + ")", x.why(a, b), y.why(a, b));
            case 16, 17 -> putAt(pick(random.nextInt(8) == 0 ? 902 : 12), pick(12));
            case 18 -> due("take(" + a + ")", x.take(a), y.take(a));
            case 19, 20, 21 -> moveBy(a, random.nextInt(21) - 10, random.nextInt(21) - 10);
            case 22, 23 -> changeTo(a, pick(5));
            case 24 -> rulesBy(pick(random.nextBoolean() ? 50 : 4400));
            case 25 -> scaleBy(pick(6));
            case 26, 27 -> due("without(" + a + ")", x.without(a), y.without(a));
            case 28 -> due("calm()", x.calm(), y.calm());
            case 29 -> due("idle()", x.idle(), y.idle());
            case 30 -> due("free()", x.free(), y.free());
            case 31, 32 -> seeSo(a, pick(4), random.nextBoolean());
            case 33 -> due("forget()", x.forget(), y.forget());
            case 34 -> drawnBy(pick(21), random.nextInt(), pick(3));
            case 35 -> due("image()", x.image(), y.image());
            case 36 -> due("restore()", x.restore(), y.restore());
            case 37, 38 -> due("count(" + a + ")", x.count(a), y.count(a));
            default -> due("digest()", x.digest(), y.digest());
        }
    }

    private void nearOrWholePage() {
        switch (random.nextInt(4)) {
            case 0 -> {
                typePage();
                due("fault()", x.fault(), y.fault());
                due("page()", x.page(), y.page());
            }
            case 1 -> typeNearPage();
            default -> due("page()", x.page(), y.page());
        }
    }

    private void boxOf(int box, int what) {
        due("box(" + box + ", " + what + ")", x.box(box, what), y.box(box, what));
    }

    private void asOf(int box, int kind) {
        due("as(" + box + ", " + kind + ")", x.as(box, kind), y.as(box, kind));
    }

    private void cutOf(int cut, int what) {
        due("cut(" + cut + ", " + what + ")", x.cut(cut, what), y.cut(cut, what));
    }

    private void laneOf(int number, int what) {
        due("lane(" + number + ", " + what + ")", x.lane(number, what), y.lane(number, what));
    }

    private void putAt(int left, int top) {
        due("put(" + left + ", " + top + ")", x.put(left, top), y.put(left, top));
    }

    private void moveBy(int box, int right, int down) {
        due("move(" + box + ", " + right + ", " + down + ")", x.move(box, right, down), y.move(box, right, down));
    }

    private void changeTo(int box, int kind) {
        due("change(" + box + ", " + kind + ")", x.change(box, kind), y.change(box, kind));
    }

    private void rulesBy(int digits) {
        due("rules(" + digits + ")", x.rules(digits), y.rules(digits));
    }

    private void scaleBy(int by) {
        due("scale(" + by + ")", x.scale(by), y.scale(by));
    }

    private void seeSo(int box, int what, boolean so) {
        due("see(" + box + ", " + what + ", " + so + ")", x.see(box, what, so), y.see(box, what, so));
    }

    private void drawnBy(int times, int seed, int what) {
        due("drawn(" + times + ", " + seed + ", " + what + ")", x.drawn(times, seed, what), y.drawn(times, seed, what));
    }
}
