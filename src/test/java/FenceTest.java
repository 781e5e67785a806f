/** Promises 23 to 25: fence, make, same. */
public final class FenceTest {
    private static final String STORES = "plain x y;thread{x=1;r0=y;}thread{y=1;r1=x;}";

    public static void main(String[] args) {
        fence();
        make();
        same();
        House.close("fence");
    }

    private static void fence(String text, int queued, int loose) {
        LitmusHouse house = House.fresh(text);
        House.due("fence(0, 1) of " + text, house.fence(0, 1), queued);
        House.due("fence(0, 2) of " + text, house.fence(0, 2), loose);
    }

    private static void fence() {
        fence(STORES, 24, 24);
        fence("plain u v w x y;thread{x=1;r0=y;}thread{y=1;r1=x;}", 24, 24);
        fence("volatile x y;thread{x=1;r0=y;}thread{y=1;r1=x;}", 0, 0);
        fence("volatile x;plain y;thread{x=1;r0=y;}thread{y=1;r1=x;}", 16, 16);
        // Either cell does for the loose order: the least number.
        fence("plain x y;thread{x=1;y=1;}thread{r0=y;r1=x;}", 0, 8);
        // u and v do, too, and are the lesser number; but z is one cell alone.
        fence("plain u v z;thread{u=1;v=1;z=1;}thread{r0=z;r1=u;r2=v;}", 0, 32);
        fence("plain x;thread{x=1;}thread{r0=x;r1=x;}", 0, 8);
        fence("plain x;thread{lock m0;x=1;unlock m0;}thread{lock m0;r0=x;unlock m0;}", 0, 0);
        fence("thread{}", 0, 0);
        fence("plain x;thread{x=1;}thread{r0=x;}", 0, 0);
        fence("plain u z;thread{u=1;r0=z;}thread{z=1;r1=u;}", 33, 33);
        fence("final z;thread{z=1;}", -1, -1);
        fence("final z;thread{}", -1, -1);
        fence("plain x y;thread{x=1;done;r0=y;}thread{y=1;r1=x;}", 24, 24);
        LitmusHouse house = House.fresh(STORES);
        for (int order : new int[] {0, 3, -1, Integer.MIN_VALUE, Integer.MAX_VALUE}) {
            House.due("fence(0, " + order + ")", house.fence(0, order), -1);
        }
        House.due("kinds stay", house.kind(0, 3) + " " + house.kind(0, 4), "0 0");
        House.due("outcomes stay", house.outcomes(0, 0) + " " + house.outcomes(0, 1) + " " + house.outcomes(0, 2), "3 4 4");
        House.due("fence(-1, 1)", House.thrown(() -> house.fence(-1, 1)), House.OUT_OF_BOUNDS);
        House.due("fence(8, 0)", House.thrown(() -> house.fence(8, 0)), House.OUT_OF_BOUNDS);
        House.due("fence(1, 0)", House.thrown(() -> house.fence(1, 0)), House.NO_SUCH_ELEMENT);
    }

    private static void make() {
        LitmusHouse house = House.fresh(STORES, "plain u;volatile v;final w;thread{r0=u;}");
        House.due("make(0, 24, 2)", house.make(0, 24, 2), 2);
        House.due("its kinds", house.kind(2, 3) + " " + house.kind(2, 4), "1 1");
        House.due("the kinds it was made of", house.kind(0, 3) + " " + house.kind(0, 4), "0 0");
        House.due("its outcomes", house.outcomes(2, 1) + " " + house.outcomes(2, 2), "3 3");
        House.due("its text", House.printed(house, 2),
            "volatile x y;\nthread {\nx = 1;\nr0 = y;\n}\nthread {\ny = 1;\nr1 = x;\n}\n");
        House.due("make(0, 0, 3)", house.make(0, 0, 3), 0);
        House.due("a copy", house.same(0, 3), true);
        int[] bad = {1, 64, 25, 24 | 64, -1, Integer.MIN_VALUE, Integer.MAX_VALUE};
        for (int cells : bad) {
            House.due("make(0, " + cells + ", 4)", house.make(0, cells, 4), -1);
        }
        House.due("nothing came", House.thrown(() -> house.look(4, 0)), House.NO_SUCH_ELEMENT);
        House.due("make of a volatile cell", house.make(1, 2, 2), -1);
        House.due("make of a final cell", house.make(1, 4, 2), -1);
        House.due("the place stays", house.look(2, 1), 4);
        House.due("make of the plain one", house.make(1, 1, 1), 1);
        House.due("in its own place", house.kind(1, 0), 1);
        House.due("once is enough", house.make(1, 1, 1), -1);
        House.due("it has its own outcomes", house.outcomes(0, 2), 4);
        House.due("make in its own place", house.make(0, 24, 0), 2);
        House.due("other outcomes then", house.outcomes(0, 2), 3);
        House.due("make(-1, 0, 0)", House.thrown(() -> house.make(-1, 0, 0)), House.OUT_OF_BOUNDS);
        House.due("make(8, 0, 0)", House.thrown(() -> house.make(8, 0, 0)), House.OUT_OF_BOUNDS);
        House.due("make(0, 0, -1)", House.thrown(() -> house.make(0, 0, -1)), House.OUT_OF_BOUNDS);
        House.due("make(0, 0, 8)", House.thrown(() -> house.make(0, 0, 8)), House.OUT_OF_BOUNDS);
        House.due("make(7, 0, 8)", House.thrown(() -> house.make(7, 0, 8)), House.OUT_OF_BOUNDS);
        House.due("make(7, 99, 0)", House.thrown(() -> house.make(7, 99, 0)), House.NO_SUCH_ELEMENT);
    }

    private static void same(String one, String other, boolean want) {
        LitmusHouse house = House.fresh(one, other);
        House.due("same of " + one + " and " + other, house.same(0, 1), want);
        House.due("same of " + other + " and " + one, house.same(1, 0), want);
    }

    private static void same() {
        same(STORES, STORES, true);
        same(STORES, "plain u z;thread{u=1;r4=z;}thread{z=1;r2=u;}", true);
        same(STORES, "plain y;plain v x;thread{y=1;r1=x;}thread{x=1;r0=y;}", true);
        same(STORES, "volatile x y;thread{x=1;r0=y;}thread{y=1;r1=x;}", false);
        same(STORES, "plain x y;thread{x=1;r0=y;}thread{y=2;r1=x;}", false);
        same(STORES, "plain x y;thread{x=1;r0=y;}thread{y=1;r1=y;}", false);
        same(STORES, "plain x y;thread{x=1;r0=y;}thread{r1=x;y=1;}", false);
        same(STORES, STORES + "thread{}", false);
        same("plain x;volatile y;thread{x=1;y=1;}", "plain y;volatile x;thread{y=1;x=1;}", true);
        same("plain x;volatile y;thread{x=1;y=1;}", "plain x;volatile y;thread{y=1;x=1;}", false);
        same("plain x y;thread{x=1;x=2;}", "plain x y;thread{x=1;y=2;}", false);
        same("thread{r0=1;}thread{r1=2;}thread{r2=3;}", "thread{r0=3;}thread{r1=1;}thread{r2=2;}", true);
        same("thread{r0=1;}thread{r1=2;}", "thread{r0=1;}thread{r1=1;}", false);
        same("thread{r0=r1;r1=r0;}", "thread{r4=r2;r2=r4;}", true);
        same("thread{r0=r1;r1=r0;}", "thread{r4=r2;r4=r2;}", false);
        same("thread{r0=r1;}", "thread{r0=r0;}", false);
        same("thread{r0=r1;}", "thread{r0=r1+0;}", false);
        same("thread{r0=0;}", "thread{r0=r1+0;}", false);
        same("thread{lock m0;unlock m0;}thread{lock m1;}", "thread{lock m0;}thread{lock m1;unlock m1;}", true);
        same("thread{lock m0;}thread{lock m1;}", "thread{lock m0;}thread{lock m0;}", false);
        same("thread{if r0==1{}}", "thread{if r0==1{}else{}}", false);
        same("thread{if r0==1{r0=1;}else{}}", "thread{if r0==1{}else{r0=1;}}", false);
        same("thread{if r0==1{r0=1;}}", "thread{if r0==1{}r0=1;}", false);
        same("thread{if r0==1{r0=2;}}", "thread{if r3==1{r3=2;}}", true);
        same("plain u v w;thread{}", "final z;thread{}", true);
        same("final z;thread{z=1;done;}", "final x;thread{x=1;done;}", true);
        same("final z;plain y;thread{r0=z;r1=y;}", "final z;plain y;thread{r0=y;r1=z;}", false);
        same("final z;thread{r0=r1.z;}", "final z;thread{r1=r0.z;}", true);
        same("final z;thread{r0=r1.z;}", "final z;thread{r0=z;}", false);
        same("thread{}thread{r0=1;}thread{}", "thread{r0=1;}thread{}thread{}", true);
        same("plain x;thread{x=1;}thread{x=2;}thread{x=3;}thread{x=4;}",
            "plain w;thread{w=4;}thread{w=2;}thread{w=1;}thread{w=3;}", true);
        LitmusHouse house = House.fresh(STORES);
        House.due("a program and itself", house.same(0, 0), true);
        int[][] bounds = {{-1, 0}, {0, -1}, {8, 0}, {0, 8}, {1, 8}, {8, 1}};
        for (int[] pair : bounds) {
            int got = House.thrown(() -> house.same(pair[0], pair[1]) ? 1 : 0);
            House.due("same(" + pair[0] + ", " + pair[1] + ")", got, House.OUT_OF_BOUNDS);
        }
        House.due("same(0, 1)", House.thrown(() -> house.same(0, 1) ? 1 : 0), House.NO_SUCH_ELEMENT);
        House.due("same(1, 0)", House.thrown(() -> house.same(1, 0) ? 1 : 0), House.NO_SUCH_ELEMENT);
    }
}
