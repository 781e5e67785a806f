/** Promises 18 to 22: witness, step, races, race, before. */
public final class RunsTest {
    public static void main(String[] args) {
        witness();
        steps();
        races();
        race();
        before();
        House.close("runs");
    }

    private static String row(LitmusHouse house) {
        StringBuilder text = new StringBuilder();
        for (int i = 0; house.step(i) >= 0; i++) {
            text.append(house.step(i));
        }
        return text.toString();
    }

    private static void witness() {
        LitmusHouse house = House.fresh("plain x;thread{r0=x;if r0==0{x=2;x=3;}}thread{x=1;}");
        House.due("witness(0): the fewest STEPS", house.witness(0), 2);
        House.due("its row", row(house), "10");
        house.wish(0, 0);
        House.due("witness(0) with r0 = 0", house.witness(0), 4);
        House.due("its row: the first", row(house), "0001");
        house.wish(0, 2);
        House.due("witness(0) with r0 = 2", house.witness(0), -1);
        House.due("the latest stays", row(house), "0001");
        house.wish(0, -1);
        House.load(house, 0, "thread{lock m0;lock m1;unlock m1;unlock m0;}thread{lock m1;lock m0;unlock m0;unlock m1;}");
        House.due("witness of a stuck run", house.witness(0), 2);
        House.due("its row", row(house), "01");
        House.load(house, 0, "thread{r0=4;}thread{}");
        House.due("witness without STEPS", house.witness(0), 0);
        House.due("its row", row(house), "");
        House.load(house, 0, "thread{done;}thread{lock m0;}");
        House.due("done is a STEP", house.witness(0), 2);
        House.due("its row", row(house), "01");
        House.due("witness(-1)", House.thrown(() -> house.witness(-1)), House.OUT_OF_BOUNDS);
        House.due("witness(8)", House.thrown(() -> house.witness(8)), House.OUT_OF_BOUNDS);
        House.due("witness(1)", House.thrown(() -> house.witness(1)), House.NO_SUCH_ELEMENT);
        House.due("the latest stays", row(house), "01");
        House.load(house, 2, "plain x y;thread{x=1;r0=y;}thread{y=1;r1=x;}");
        house.wish(0, 1);
        house.wish(1, 0);
        House.due("witness of one row alone", house.witness(2), 4);
        House.due("its row", row(house), "1100");
    }

    private static void steps() {
        LitmusHouse house = new LitmusHouse();
        House.due("step(0) ahead of any", house.step(0), -1);
        House.load(house, 0, "plain x;thread{}thread{x=1;}thread{}thread{x=1;}");
        house.witness(0);
        House.due("step(0)", house.step(0), 1);
        House.due("step(1)", house.step(1), 3);
        for (int i : new int[] {-1, 2, 8, 17, Integer.MIN_VALUE, Integer.MAX_VALUE}) {
            House.due("step(" + i + ")", house.step(i), -1);
        }
        house.drop(0);
        House.due("step(1) when the program is gone", house.step(1), 3);
    }

    private static void races(String text, String want) {
        LitmusHouse house = House.fresh(text);
        StringBuilder got = new StringBuilder();
        for (int i = 0; i < house.races(0); i++) {
            got.append(i > 0 ? " " : "").append(house.race(0, i, 0)).append('-').append(house.race(0, i, 1));
        }
        House.due("races of " + text, got.toString(), want);
    }

    private static void races() {
        races("plain x y;thread{x=1;r0=y;}thread{y=1;r1=x;}", "0-3 1-2");
        races("volatile x y;thread{x=1;r0=y;}thread{y=1;r1=x;}", "");
        races("plain x;thread{r0=x;}thread{r1=x;}", "");
        races("plain x;thread{x=1;r0=x;}", "");
        races("plain x y;thread{x=1;}thread{y=1;}", "");
        races("plain x;thread{x=1;}thread{x=1;}thread{r0=x;}", "0-1 0-2 1-2");
        races("plain x;thread{lock m0;x=1;unlock m0;}thread{lock m0;r0=x;unlock m0;}", "");
        races("plain x;thread{lock m0;x=1;unlock m0;}thread{lock m1;r0=x;unlock m1;}", "1-4");
        races("plain x;thread{lock m0;x=1;unlock m0;}thread{lock m0;unlock m0;r0=x;}", "1-5");
        // With the flag seen there is none; without it the READ is not done.
        races("plain x;volatile v;thread{x=1;v=1;}thread{r0=v;if r0==1{r1=x;}}", "");
        races("plain x;volatile v;thread{x=1;v=1;}thread{r0=v;r1=x;}", "0-3");
        // Never both done in a run: no race.
        races("plain x y;thread{if r0==1{x=1;}}thread{x=2;}", "");
        races("plain x y;thread{r0=y;if r0==1{x=1;}}thread{r1=x;if r1==1{y=1;}}", "");
        // done does not count there.
        races("final z;plain x;thread{z=1;done;x=1;}thread{r0=x;r1=r0.z;}", "0-4 2-3");
        races("final z;thread{z=1;}thread{r0=z;}", "0-1");
        races("thread{lock m0;unlock m0;}thread{lock m0;done;}", "");
    }

    private static void race() {
        LitmusHouse house = House.fresh("plain x y;thread{x=1;r0=y;}thread{y=1;r1=x;}");
        House.due("race(0, 1, 0)", house.race(0, 1, 0), 1);
        House.due("race(0, 1, 1)", house.race(0, 1, 1), 2);
        for (int i : new int[] {-1, 2, Integer.MIN_VALUE, Integer.MAX_VALUE}) {
            House.due("race(0, " + i + ", 0)", house.race(0, i, 0), -1);
        }
        for (int which : new int[] {-1, 2, Integer.MIN_VALUE, Integer.MAX_VALUE}) {
            House.due("race(0, 0, " + which + ")", house.race(0, 0, which), -1);
        }
        House.due("races(-1)", House.thrown(() -> house.races(-1)), House.OUT_OF_BOUNDS);
        House.due("races(8)", House.thrown(() -> house.races(8)), House.OUT_OF_BOUNDS);
        House.due("races(1)", House.thrown(() -> house.races(1)), House.NO_SUCH_ELEMENT);
        House.due("race(-1, 0, 0)", House.thrown(() -> house.race(-1, 0, 0)), House.OUT_OF_BOUNDS);
        House.due("race(8, 0, 0)", House.thrown(() -> house.race(8, 0, 0)), House.OUT_OF_BOUNDS);
        House.due("race(1, 0, 0)", House.thrown(() -> house.race(1, 0, 9)), House.NO_SUCH_ELEMENT);
    }

    private static void before(String text, int a, int b, int want) {
        LitmusHouse house = House.fresh(text);
        House.due("before(0, " + a + ", " + b + ") of " + text, house.before(0, a, b), want);
    }

    private static void before() {
        String message = "plain x;volatile v;thread{x=1;v=1;}thread{r0=v;r1=x;}";
        before(message, 0, 1, 1);
        before(message, 1, 0, 3);
        before(message, 1, 2, 2);
        before(message, 0, 3, 2);
        before(message, 3, 0, 3);
        before(message, 2, 1, 3);
        String flag = "plain x;volatile v;thread{x=1;v=1;}thread{r0=v;if r0==1{r1=x;}else{r1=5;v=2;}}";
        before(flag, 0, 3, 1);
        before(flag, 3, 4, 0);
        before(flag, 4, 3, 0);
        before(flag, 1, 4, 3);
        String locks = "thread{lock m0;unlock m0;}thread{lock m0;unlock m0;}thread{lock m1;}";
        before(locks, 1, 2, 2);
        before(locks, 0, 3, 2);
        before(locks, 0, 4, 3);
        String never = "thread{lock m0;}thread{lock m0;}";
        before(never, 0, 1, 0);
        String published = "final z;plain x;thread{z=1;done;x=1;}thread{r0=x;r1=r0.z;}";
        before(published, 1, 4, 1);
        before(published, 0, 4, 1);
        before(published, 2, 4, 3);
        before(published, 2, 3, 3);
        String some = "final z;plain x;thread{z=1;done;x=1;}thread{x=2;}thread{r0=x;r1=r0.z;}";
        before(some, 1, 5, 2);
        LitmusHouse house = House.fresh(message);
        int[][] none = {{0, 0}, {3, 3}, {-1, 0}, {0, -1}, {4, 0}, {0, 4}, {9, 9}, {Integer.MIN_VALUE, 0},
            {0, Integer.MAX_VALUE}};
        for (int[] pair : none) {
            House.due("before(0, " + pair[0] + ", " + pair[1] + ")", house.before(0, pair[0], pair[1]), -1);
        }
        House.due("before(-1, 0, 1)", House.thrown(() -> house.before(-1, 0, 1)), House.OUT_OF_BOUNDS);
        House.due("before(8, 0, 1)", House.thrown(() -> house.before(8, 0, 1)), House.OUT_OF_BOUNDS);
        House.due("before(1, 0, 0)", House.thrown(() -> house.before(1, 0, 0)), House.NO_SUCH_ELEMENT);
    }
}
