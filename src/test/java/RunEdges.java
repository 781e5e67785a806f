/** Promises 13 to 25, sentence by sentence: what programs come to. */
final class RunEdges {
    private static final int[] NO_ORDERS = {-1, 3, 4, Integer.MIN_VALUE, Integer.MAX_VALUE};
    private static final String STORES = "plain x y;thread{x=1;r0=y;}thread{y=1;r1=x;}";
    private static final String MESSAGE = "plain x;volatile v;thread{x=1;v=1;}thread{r0=v;r1=x;}";

    private RunEdges() {
    }

    static void all() {
        outcomes();
        otherOrder();
        value();
        valueNone();
        stuck();
        stuckNone();
        wish();
        wishOther();
        allowed();
        witnessSteps();
        witnessNone();
        step();
        stepNone();
        races();
        race();
        raceNone();
        before();
        beforeNone();
        fence();
        fenceOtherOrder();
        fenceFinal();
        make();
        makeNone();
        makeNoPlace();
        same();
    }

    /** The WITNESS as a row of threads, or NONE. */
    static String witness(LitmusHouse house, int p) {
        int size = house.witness(p);
        if (size < 0) {
            return "NONE";
        }
        return row(house, size);
    }

    private static String row(LitmusHouse house, int size) {
        StringBuilder text = new StringBuilder();
        for (int i = 0; i < size; i++) {
            text.append(house.step(i));
        }
        Edge.due("step(" + size + ") behind the last", house.step(size), -1);
        return text.toString();
    }

    static void alike(String one, String other, boolean want) {
        LitmusHouse house = House.fresh(one, other);
        Edge.due("same of " + one + " and " + other, house.same(0, 1), want);
        Edge.due("same of " + other + " and " + one, house.same(1, 0), want);
    }

    private static void outcomes() {
        Edge.about("Promise 13: outcomes", "How many OUTCOMES an order has.");
        String[] texts = {"thread{}", STORES, MESSAGE, "plain x;thread{x=1;}thread{r0=x;r1=x;}"};
        int[][] counts = {{1, 1, 1}, {3, 4, 4}, {3, 3, 3}, {3, 3, 4}};
        for (int i = 0; i < texts.length; i++) {
            LitmusHouse house = House.fresh(texts[i]);
            for (int order = 2; order >= 0; order--) {
                Edge.due("outcomes(0, " + order + ") of " + texts[i], house.outcomes(0, order), counts[i][order]);
                Edge.due("asked once more", house.outcomes(0, order), counts[i][order]);
            }
        }
        LitmusHouse house = House.fresh(STORES);
        house.outcomes(0, 1);
        House.load(house, 0, "thread{r0=1;}");
        Edge.due("another program in the PLACE", house.outcomes(0, 1), 1);
    }

    private static void otherOrder() {
        Edge.about("Promise 13: outcomes", "NONE for another order (so in all calls behind this one).");
        LitmusHouse house = House.fresh(STORES);
        for (int round = 0; round < 2; round++) {
            for (int order : NO_ORDERS) {
                Edge.due("outcomes(0, " + order + ")", house.outcomes(0, order), -1);
                Edge.due("value(0, " + order + ", 0, 0)", house.value(0, order, 0, 0), -1);
                Edge.due("stuck(0, " + order + ", 0)", house.stuck(0, order, 0), -1);
                Edge.due("allowed(0, " + order + ")", house.allowed(0, order), -1);
                Edge.due("fence(0, " + order + ")", house.fence(0, order), -1);
            }
            // The other round when all orders are known already.
            Edge.due("outcomes of each order", house.outcomes(0, 0) + " " + house.outcomes(0, 1) + " " + house.outcomes(0, 2), "3 4 4");
        }
    }

    private static void value() {
        Edge.about("Promise 14: value", "The value of LOCAL l (0 .. 4) in OUTCOME i;");
        LitmusHouse house = House.fresh("plain x;thread{r0=x;r1=1;r2=2;r3=3;r4=4;}thread{x=9;}");
        for (int order = 0; order < 3; order++) {
            for (int i = 0; i < 2; i++) {
                for (int l = 0; l < 5; l++) {
                    Edge.due("value(0, " + order + ", " + i + ", " + l + ")", house.value(0, order, i, l), l == 0 ? 9 * i : l);
                }
            }
        }
    }

    private static void valueNone() {
        Edge.about("Promise 14: value", "NONE if there is none such.");
        LitmusHouse house = House.fresh(STORES, "thread{}");
        int[] counts = {3, 4, 4};
        for (int order = 0; order < 3; order++) {
            for (int i : new int[] {-1, counts[order], 1000, Integer.MIN_VALUE, Integer.MAX_VALUE}) {
                Edge.due("value(0, " + order + ", " + i + ", 0)", house.value(0, order, i, 0), -1);
            }
            for (int l : new int[] {-1, 5, 6, Integer.MIN_VALUE, Integer.MAX_VALUE}) {
                Edge.due("value(0, " + order + ", 0, " + l + ")", house.value(0, order, 0, l), -1);
            }
            Edge.due("the last one's", house.value(0, order, counts[order] - 1, 0), 1);
            Edge.due("the only one's", house.value(1, order, 0, 4) + " " + house.value(1, order, 1, 4), "0 -1");
        }
    }

    private static void stuck() {
        Edge.about("Promise 15: stuck", "The STUCK threads, as bits, in OUTCOME i;");
        LitmusHouse house = House.fresh("thread{lock m0;}thread{}thread{lock m0;}thread{lock m0;}", "final z;thread{r0=r0.z;}thread{r1=r1.z;}"
            + "thread{r2=r2.z;}thread{r3=r3.z;}");
        int[] want = {5, 9, 12};
        for (int order = 0; order < 3; order++) {
            for (int i = 0; i < 3; i++) {
                Edge.due("stuck(0, " + order + ", " + i + ")", house.stuck(0, order, i), want[i]);
            }
            Edge.due("all of them: stuck(1, " + order + ", 0)", house.stuck(1, order, 0), 15);
        }
        Edge.due("none of them", House.fresh("thread{}").stuck(0, 0, 0), 0);
    }

    private static void stuckNone() {
        Edge.about("Promise 15: stuck", "NONE if there is none such.");
        LitmusHouse house = House.fresh(STORES);
        int[] counts = {3, 4, 4};
        for (int order = 0; order < 3; order++) {
            for (int i : new int[] {-1, counts[order], 1000, Integer.MIN_VALUE, Integer.MAX_VALUE}) {
                Edge.due("stuck(0, " + order + ", " + i + ")", house.stuck(0, order, i), -1);
            }
            Edge.due("the last one's", house.stuck(0, order, counts[order] - 1), 0);
        }
    }

    private static void wish() {
        Edge.about("Promise 16: wish", "LOCAL l (0 .. 4) is WISHED to have the value v (0 .. 9; NONE: any, as at first): true;");
        for (int l = 0; l < 5; l++) {
            LitmusHouse house = new LitmusHouse();
            for (int v = 0; v < 10; v++) {
                House.load(house, 0, "thread{r" + l + "=" + v + ";}");
                Edge.due("wish(" + l + ", " + v + ")", house.wish(l, v), true);
                Edge.due("what has it", house.allowed(0, 0), 1);
                House.load(house, 0, "thread{r" + l + "=" + (v + 1) % 10 + ";}");
                Edge.due("what has another value", house.allowed(0, 0), 0);
            }
            Edge.due("wish(" + l + ", NONE)", house.wish(l, -1), true);
            Edge.due("any", house.allowed(0, 0), 1);
        }
    }

    private static void wishOther() {
        Edge.about("Promise 16: wish", "false for others.");
        LitmusHouse house = House.fresh("thread{r0=3;}");
        for (int l : new int[] {-1, 5, 6, Integer.MIN_VALUE, Integer.MAX_VALUE}) {
            for (int v : new int[] {-1, 0, 9}) {
                Edge.due("wish(" + l + ", " + v + ")", house.wish(l, v), false);
            }
        }
        house.wish(0, 3);
        for (int l = 0; l < 5; l++) {
            for (int v : new int[] {-2, 10, 11, Integer.MIN_VALUE, Integer.MAX_VALUE}) {
                Edge.due("wish(" + l + ", " + v + ")", house.wish(l, v), false);
            }
        }
        Edge.due("what was wished holds still", house.allowed(0, 0), 1);
        House.load(house, 0, "thread{r0=4;}");
        Edge.due("and alone", house.allowed(0, 0), 0);
    }

    private static void allowed() {
        Edge.about("Promise 17: allowed", "How many OUTCOMES of an order MEET the WISH.");
        LitmusHouse house = House.fresh(STORES);
        int[][] wishes = {{-1, -1, 3, 4, 4}, {0, -1, 1, 2, 2}, {-1, 0, 1, 2, 2}, {0, 0, 0, 1, 1}, {1, 1, 1, 1, 1}, {2, -1, 0, 0, 0}};
        for (int[] one : wishes) {
            house.wish(0, one[0]);
            house.wish(1, one[1]);
            for (int order = 0; order < 3; order++) {
                Edge.due("allowed(0, " + order + ") wishing " + one[0] + " " + one[1], house.allowed(0, order), one[2 + order]);
            }
        }
        LitmusHouse ahead = new LitmusHouse();
        ahead.wish(4, 1);
        House.load(ahead, 0, "thread{}");
        Edge.due("a WISH is there ahead of the program", ahead.allowed(0, 2), 0);
    }

    private static void witnessSteps() {
        Edge.about("Promise 18: witness", "The WITNESS: how many STEPS it has;");
        LitmusHouse house = House.fresh("thread{r0=1;}thread{}", "thread{lock m0;}", "plain x;thread{x=1;x=1;}thread{x=1;x=1;}thread{x=1;x=1;}thread{x=1;x=1;}",
            "plain x;thread{if r0==1{x=1;}x=2;}", "final z;thread{r0=r0.z;}");
        String[] want = {"", "0", "00112233", "0", ""};
        for (int p = 0; p < want.length; p++) {
            Edge.due("witness(" + p + ")", house.witness(p), want[p].length());
            Edge.due("its row", row(house, want[p].length()), want[p]);
        }
    }

    private static void witnessNone() {
        Edge.about("Promise 18: witness", "NONE if no SEQUENTIAL OUTCOME MEETS the WISH (step() stays).");
        LitmusHouse house = House.fresh(STORES);
        house.wish(0, 0);
        house.wish(1, 0);
        Edge.due("ahead of any: witness(0)", house.witness(0), -1);
        Edge.due("step(0)", house.step(0), -1);
        house.wish(0, 1);
        Edge.due("witness(0)", witness(house, 0), "1100");
        house.wish(0, 0);
        Edge.due("the queued order has one, the sequential none", house.allowed(0, 1) + " " + house.witness(0), "1 -1");
        Edge.due("step() stays", row(house, 4), "1100");
        house.wish(2, 5);
        Edge.due("a LOCAL that does not stand in it is 0", house.witness(0), -1);
        Edge.thrown("witness(1)", () -> house.witness(1), House.NO_SUCH_ELEMENT);
        Edge.thrown("witness(8)", () -> house.witness(8), House.OUT_OF_BOUNDS);
        Edge.due("step() stays", row(house, 4), "1100");
    }

    private static void step() {
        Edge.about("Promise 19: step", "The thread of STEP i of the latest WITNESS;");
        LitmusHouse house = House.fresh("thread{}thread{lock m0;}thread{lock m1;unlock m1;}thread{done;}", "thread{lock m0;}");
        house.witness(0);
        Edge.due("the row", row(house, 4), "1223");
        house.witness(1);
        Edge.due("a shorter one, later", row(house, 1), "0");
        house.drop(1);
        Edge.due("when the program is gone", row(house, 1), "0");
    }

    private static void stepNone() {
        Edge.about("Promise 19: step", "NONE if there is none such.");
        LitmusHouse house = House.fresh("plain x;thread{x=1;x=2;}", "thread{}");
        for (int i : new int[] {-1, 0, 1, Integer.MIN_VALUE, Integer.MAX_VALUE}) {
            Edge.due("step(" + i + ") ahead of any", house.step(i), -1);
        }
        house.witness(0);
        for (int i : new int[] {-1, 2, 3, 8, 16, 17, 1000, Integer.MIN_VALUE, Integer.MAX_VALUE}) {
            Edge.due("step(" + i + ") of two", house.step(i), -1);
        }
        house.witness(1);
        Edge.due("step(0) of none", house.step(0), -1);
    }

    private static void races() {
        Edge.about("Promise 20: races", "How many RACES.");
        String[] texts = {"thread{}", STORES, MESSAGE, "plain x;thread{x=1;x=1;}thread{x=1;x=1;}thread{x=1;x=1;}thread{x=1;x=1;}"};
        int[] counts = {0, 2, 1, 24};
        for (int i = 0; i < texts.length; i++) {
            LitmusHouse house = House.fresh(texts[i]);
            Edge.due("races(0) of " + texts[i], house.races(0), counts[i]);
            Edge.due("asked once more", house.races(0), counts[i]);
        }
        LitmusHouse house = House.fresh(STORES);
        house.races(0);
        house.make(0, 24, 0);
        Edge.due("made volatile it has none", house.races(0), 0);
    }

    private static void race() {
        Edge.about("Promise 21: race", "The lesser (which 0), the greater (1) ACTION of RACE i;");
        LitmusHouse house = House.fresh(STORES);
        int[][] want = {{0, 3}, {1, 2}};
        for (int i = 0; i < 2; i++) {
            for (int which = 0; which < 2; which++) {
                Edge.due("race(0, " + i + ", " + which + ")", house.race(0, i, which), want[i][which]);
            }
        }
        LitmusHouse far = House.fresh("plain x;thread{x=1;lock m0;unlock m0;lock m0;unlock m0;lock m0;unlock m0;}thread{r0=x;}");
        Edge.due("the first and the last ACTION", far.race(0, 0, 0) + "-" + far.race(0, 0, 1), "0-7");
    }

    private static void raceNone() {
        Edge.about("Promise 21: race", "NONE if there is none such.");
        LitmusHouse house = House.fresh(STORES, "thread{}");
        for (int which = 0; which < 2; which++) {
            for (int i : new int[] {-1, 2, 3, 24, 64, Integer.MIN_VALUE, Integer.MAX_VALUE}) {
                Edge.due("race(0, " + i + ", " + which + ")", house.race(0, i, which), -1);
            }
            Edge.due("race(1, 0, " + which + ")", house.race(1, 0, which), -1);
        }
        for (int which : new int[] {-1, 2, 3, Integer.MIN_VALUE, Integer.MAX_VALUE}) {
            Edge.due("race(0, 0, " + which + ")", house.race(0, 0, which), -1);
        }
    }

    private static void before(String text, int a, int b, int want) {
        Edge.due("before(0, " + a + ", " + b + ") of " + text, House.fresh(text).before(0, a, b), want);
    }

    private static void before() {
        String flag = "plain x;volatile v;thread{x=1;v=1;}thread{r0=v;if r0==1{r1=x;}else{r1=5;v=2;}}";
        Edge.about("Promise 22: before", "0 if ACTIONS a and b are both done in no LOOSE run;");
        before(flag, 3, 4, 0);
        before(flag, 4, 3, 0);
        before("thread{lock m0;}thread{lock m0;}", 0, 1, 0);
        before("plain x;thread{x=1;if r0==1{x=2;}}", 0, 1, 0);
        before("plain x;thread{x=1;if r0==1{x=2;}}", 1, 0, 0);
        // In no SEQUENTIAL run, but in a LOOSE one.
        before("plain x y;thread{x=1;}thread{r0=x;if r0==1{r1=x;if r1==0{y=1;}}}", 0, 3, 3);
        Edge.about("Promise 22: before", "else 1 if a is BEFORE b in all LOOSE runs in which both are,");
        before(MESSAGE, 0, 1, 1);
        before(flag, 0, 3, 1);
        before("final z;plain x;thread{z=1;done;x=1;}thread{r0=x;r1=r0.z;}", 1, 4, 1);
        Edge.about("Promise 22: before", "2 if in some of them,");
        before(MESSAGE, 1, 2, 2);
        before(MESSAGE, 0, 3, 2);
        before("thread{lock m0;unlock m0;}thread{lock m0;unlock m0;}", 1, 2, 2);
        before("thread{lock m0;unlock m0;}thread{lock m0;unlock m0;}", 3, 0, 2);
        Edge.about("Promise 22: before", "3 if in none.");
        before(MESSAGE, 1, 0, 3);
        before(MESSAGE, 2, 1, 3);
        before(MESSAGE, 3, 0, 3);
        before(STORES, 0, 3, 3);
        before(flag, 1, 4, 3);
    }

    private static void beforeNone() {
        Edge.about("Promise 22: before", "NONE: no such ACTION, or a is b.");
        LitmusHouse house = House.fresh(MESSAGE, "thread{}", "plain x;thread{x=1;x=2;x=3;x=4;x=5;x=6;x=7;x=8;}");
        for (int off : new int[] {-1, 4, 7, 8, 63, 64, Integer.MIN_VALUE, Integer.MAX_VALUE}) {
            for (int a : new int[] {0, 3, off}) {
                Edge.due("before(0, " + a + ", " + off + ")", house.before(0, a, off), -1);
                Edge.due("before(0, " + off + ", " + a + ")", house.before(0, off, a), -1);
            }
        }
        for (int a = 0; a < 4; a++) {
            Edge.due("before(0, " + a + ", " + a + ")", house.before(0, a, a), -1);
        }
        Edge.due("before(1, 0, 1) of none", house.before(1, 0, 1), -1);
        Edge.due("the last of eight", house.before(2, 0, 7) + " " + house.before(2, 7, 0) + " " + house.before(2, 7, 7), "1 3 -1");
        Edge.due("behind the last of eight", house.before(2, 0, 8) + " " + house.before(2, 8, 0), "-1 -1");
    }

    private static void fence() {
        Edge.about("Promise 23: fence", "The FENCE of an order: its cells as bits.");
        String[] texts = {"thread{}", STORES, MESSAGE, "plain x y;thread{x=1;y=1;}thread{r0=y;r1=x;}", "plain u z;thread{u=1;r0=z;}thread{z=1;r1=u;}",
            "plain u v w x y;thread{u=1;v=1;}", STORES.replace("plain", "volatile")};
        int[][] want = {{0, 0}, {24, 24}, {0, 0}, {0, 8}, {33, 33}, {0, 0}, {0, 0}};
        for (int i = 0; i < texts.length; i++) {
            LitmusHouse house = House.fresh(texts[i]);
            Edge.due("fence of " + texts[i], house.fence(0, 1) + " " + house.fence(0, 2), want[i][0] + " " + want[i][1]);
        }
        LitmusHouse house = House.fresh(STORES);
        house.fence(0, 2);
        Edge.due("the program stays as it is", house.kind(0, 3) + " " + house.kind(0, 4) + " " + house.outcomes(0, 2), "0 0 4");
    }

    private static void fenceOtherOrder() {
        Edge.about("Promise 23: fence", "NONE for another order than 1 and 2,");
        LitmusHouse house = House.fresh(STORES, "thread{}");
        for (int order : new int[] {0, 3, 4, -1, Integer.MIN_VALUE, Integer.MAX_VALUE}) {
            Edge.due("fence(0, " + order + ")", house.fence(0, order), -1);
            Edge.due("fence(1, " + order + ")", house.fence(1, order), -1);
        }
    }

    private static void fenceFinal() {
        Edge.about("Promise 23: fence", "or if the program has a final cell.");
        for (int order = 1; order < 3; order++) {
            Edge.due("one that no ACTION touches", House.fresh("final z;thread{}").fence(0, order), -1);
            Edge.due("one among others", House.fresh("plain x y;final z;thread{x=1;r0=y;}thread{y=1;r1=x;}").fence(0, order), -1);
            Edge.due("u", House.fresh("final u;thread{u=1;}").fence(0, order), -1);
            Edge.due("done without one", House.fresh("plain x;thread{x=1;done;}").fence(0, order), 0);
        }
    }

    private static void make() {
        Edge.about("Promise 24: make", "The program with the plain cells of a set (as bits) made volatile comes to PLACE to: how many cells changed.");
        for (int set = 0; set < 64; set++) {
            LitmusHouse house = House.fresh("plain u v w x y;thread{u=1;}", "plain v w x y z;thread{z=1;}");
            int from = (set & 32) != 0 ? 1 : 0;
            boolean all = from == 0 || (set & 1) == 0;
            Edge.due("make(" + from + ", " + set + ", 7)", house.make(from, set, 7), all ? Integer.bitCount(set) : -1);
            for (int c = 0; c < 6 && all; c++) {
                int was = house.kind(from, c);
                Edge.due("kind(7, " + c + ")", house.kind(7, c), (set >> c & 1) != 0 ? 1 : was);
                Edge.due("kind(from, " + c + ") stays", was, c == (from == 0 ? 5 : 0) ? -1 : 0);
            }
        }
        LitmusHouse house = House.fresh(STORES);
        Edge.due("into its own PLACE", house.make(0, 8, 0) + " " + house.kind(0, 3) + " " + house.kind(0, 4), "1 1 0");
        Edge.due("the rest of it", house.make(0, 16, 0) + " " + house.outcomes(0, 1) + " " + house.outcomes(0, 2), "1 3 3");
        Edge.due("the empty set", house.make(0, 0, 1) + " " + house.same(0, 1), "0 true");
        House.load(house, 2, "thread{}");
        Edge.due("over another program", house.make(0, 0, 2) + " " + house.look(2, 1), "0 4");
    }

    private static void makeNone() {
        Edge.about("Promise 24: make", "NONE, and nothing comes, for a set with others than declared plain cells.");
        LitmusHouse house = House.fresh("plain u;volatile v;final w;plain x;thread{u=1;x=1;}", "thread{}");
        for (int set : new int[] {2, 4, 16, 32, 64, 128, 3, 5, 9 | 2, 9 | 4, 9 | 16, 9 | 64, 1 << 30, Integer.MIN_VALUE, Integer.MIN_VALUE | 9, -1, -2,
            Integer.MAX_VALUE}) {
            Edge.due("make(0, " + set + ", 1)", house.make(0, set, 1), -1);
            Edge.due("make(0, " + set + ", 2)", house.make(0, set, 2), -1);
            Edge.due("make(0, " + set + ", 0)", house.make(0, set, 0), -1);
        }
        Edge.due("what was there stays", house.look(1, 1) + " " + house.look(1, 2), "0 0");
        Edge.thrown("what was empty stays", () -> house.look(2, 0), House.NO_SUCH_ELEMENT);
        Edge.due("the program stays", house.kind(0, 0) + " " + house.kind(0, 1) + " " + house.kind(0, 2) + " " + house.kind(0, 3), "0 1 2 0");
        Edge.due("make(0, 9, 0)", house.make(0, 9, 0), 2);
        Edge.due("once more", house.make(0, 9, 0), -1);
    }

    private static void makeNoPlace() {
        Edge.about("Promise 24: make", "IndexOutOfBoundsException: no such PLACE, of both.");
        LitmusHouse house = House.fresh(STORES);
        for (int p : Edge.NO_PLACES) {
            Edge.thrown("make(" + p + ", 0, 0)", () -> house.make(p, 0, 0), House.OUT_OF_BOUNDS);
            Edge.thrown("make(0, 0, " + p + ")", () -> house.make(0, 0, p), House.OUT_OF_BOUNDS);
            Edge.thrown("make(0, 64, " + p + ") of a bad set", () -> house.make(0, 64, p), House.OUT_OF_BOUNDS);
            Edge.thrown("make(" + p + ", 0, " + p + ")", () -> house.make(p, 0, p), House.OUT_OF_BOUNDS);
            Edge.thrown("make(7, 0, " + p + ") of none", () -> house.make(7, 0, p), House.OUT_OF_BOUNDS);
        }
        Edge.thrown("make(7, 0, 0) of none", () -> house.make(7, 0, 0), House.NO_SUCH_ELEMENT);
        Edge.due("make(0, 0, 7)", house.make(0, 0, 7), 0);
    }

    private static void same() {
        Edge.about("Promise 25: same", "Whether the programs in two PLACES are ALIKE.");
        alike(STORES, STORES, true);
        alike(STORES, STORES + "thread{}", false);
        alike("thread{}", "thread{}thread{}", false);
        alike("thread{}thread{}thread{}thread{}", "thread{}thread{}thread{}thread{}", true);
        alike("thread{r0=1;}", "thread{}", false);
        alike("thread{r0=9;}", "thread{r0=8;}", false);
        alike("thread{r0=r1;}", "thread{r0=r1+0;}", false);
        String longest = "thread{" + "if r0==0{}else{}".repeat(20) + "}thread{}thread{}thread{}";
        alike(longest, longest.replace("r0", "r4"), true);
        alike(longest, "thread{" + "if r0==0{}else{}".repeat(19) + "if r0==1{}else{}}thread{}thread{}thread{}", false);
        // Each of the 24 orders of four threads.
        String four = "thread{r0=0;}thread{r1=1;}thread{r2=2;}thread{r3=3;}";
        for (int row = 0; row < 256; row++) {
            StringBuilder text = new StringBuilder();
            int taken = 0;
            for (int t = 0; t < 4; t++) {
                int to = row >> 2 * t & 3;
                taken |= 1 << to;
                text.append("thread{r").append(t).append('=').append(to).append(";}");
            }
            alike(four, text.toString(), taken == 15);
        }
        LitmusHouse house = House.fresh(STORES);
        Edge.due("a program and itself", house.same(0, 0), true);
    }
}
