/** Promises 13 to 17: outcomes, value, stuck, wish, allowed. */
public final class OutcomesTest {
    public static void main(String[] args) {
        sequential();
        queued();
        loose();
        published();
        values();
        stuck();
        wishes();
        House.close("outcomes");
    }

    private static void check(String text, int order, String want) {
        LitmusHouse house = House.fresh(text);
        House.due("outcomes " + order + " of " + text, House.outcomes(house, 0, order), want);
    }

    /** Each order in turn. */
    private static void check(String text, String sequential, String queued, String loose) {
        check(text, 0, sequential);
        check(text, 1, queued);
        check(text, 2, loose);
    }

    private static void sequential() {
        check("thread{}", "00000/0", "00000/0", "00000/0");
        check("thread{r4=r4+7;r4=r4+7;r0=r4;r1=9;r1=r1+1;}", "40004/0", "40004/0", "40004/0");
        check("thread{if r0==1{r1=1;}else{r1=2;}if r1==2{if r2==0{r3=5;}}}", 0, "02050/0");
        check("thread{if r0==0{r0=1;}if r0==0{r1=1;}if r0==1{r2=1;}}", 0, "10100/0");
        String increments = "plain x;thread{r0=x;x=r0+1;}thread{r1=x;x=r1+1;}thread{r2=x;}";
        check(increments, 0, "00000/0 00100/0 01000/0 01100/0 01200/0 10000/0 10100/0 10200/0");
        check("plain x;thread{x=1;x=2;}thread{r0=x;if r0==1{r1=x;}else{r1=9;}}", 0, "09000/0 11000/0 12000/0 29000/0");
        check("thread{lock m0;}thread{lock m0;r0=1;}", 0, "00000/2 10000/1");
        check("thread{lock m0;r0=1;lock m1;unlock m1;unlock m0;r1=1;}thread{lock m1;lock m0;unlock m0;unlock m1;r2=1;}",
            0, "10000/3 11100/0");
    }

    private static void queued() {
        check("plain x y;thread{x=1;r0=y;}thread{y=1;r1=x;}", 1, "00000/0 01000/0 10000/0 11000/0");
        check("volatile x y;thread{x=1;r0=y;}thread{y=1;r1=x;}", 1, "01000/0 10000/0 11000/0");
        check("volatile x;plain y;thread{x=1;r0=y;}thread{y=1;r1=x;}", 1, "00000/0 01000/0 10000/0 11000/0");
        check("plain x y;thread{x=1;y=1;}thread{r0=y;r1=x;}", 1, "00000/0 01000/0 11000/0");
        // A thread sees its own queue's latest WRITE ahead of the others.
        check("plain x;thread{x=1;x=2;r0=x;}", "20000/0", "20000/0", "20000/0");
        check("plain x y;thread{x=1;r0=x;r1=y;}thread{y=1;r2=y;r3=x;}", 1,
            "10100/0 10110/0 11100/0 11110/0");
        // lock waits for the queue to be empty, and so does unlock.
        check("plain x y;thread{x=1;lock m0;r0=y;}thread{y=1;lock m1;r1=x;}", 1, "01000/0 10000/0 11000/0");
        check("plain x y;thread{lock m0;x=1;unlock m0;r0=y;}thread{lock m1;y=1;unlock m1;r1=x;}", 1,
            "01000/0 10000/0 11000/0");
        check("plain x y;thread{x=1;done;r0=y;}thread{y=1;r1=x;}", 1, "00000/0 01000/0 10000/0 11000/0");
    }

    private static void loose() {
        check("plain x y;thread{x=1;y=1;}thread{r0=y;r1=x;}", 2, "00000/0 01000/0 10000/0 11000/0");
        check("plain x;volatile y;thread{x=1;y=1;}thread{r0=y;r1=x;}", 2, "00000/0 01000/0 11000/0");
        check("volatile x;plain y;thread{x=1;y=1;}thread{r0=y;r1=x;}", 2, "00000/0 01000/0 11000/0");
        check("plain x;volatile y;thread{y=1;x=1;}thread{r0=x;r1=y;}", 2, "00000/0 01000/0 11000/0");
        check("plain x;volatile y;thread{y=1;x=1;}thread{r1=y;r0=x;}", 2, "00000/0 01000/0 10000/0 11000/0");
        check("plain x;thread{x=1;}thread{r0=x;r1=x;}", 2, "00000/0 01000/0 10000/0 11000/0");
        // Its own WRITE hides the 0 and the WRITES ahead of it, but not another thread's.
        check("plain x;thread{x=1;x=2;r0=x;}thread{x=3;}", 2, "20000/0 30000/0");
        // An unlock is BEFORE every later lock.
        check("plain x;thread{lock m0;x=1;unlock m0;}thread{lock m0;r0=x;unlock m0;}", 2, "00000/0 10000/0");
        check("plain x;thread{x=1;lock m0;unlock m0;}thread{lock m1;r0=x;unlock m1;}", 2, "00000/0 10000/0");
        check("plain x;thread{x=1;lock m0;unlock m0;x=2;}thread{lock m0;r0=x;}", 2, 
            "00000/1 10000/0 10000/1 20000/0");
        // What is seen of a volatile cell links only the WRITE that is seen.
        check("plain x;volatile v;thread{x=1;v=1;}thread{v=2;}thread{r0=v;r1=x;}", 2,
            "00000/0 01000/0 11000/0 20000/0 21000/0");
        // The link goes on from one to the next.
        check("plain x;volatile v w;thread{x=1;v=1;}thread{r0=v;w=r0;}thread{r1=w;r2=x;}", 2,
            "00000/0 00100/0 10000/0 10100/0 11100/0");
        // No value comes out of thin air: a WRITE is seen only once it is done.
        check("plain x y;thread{r0=y;x=1;}thread{r1=x;y=1;}", 2, "00000/0 01000/0 10000/0");
    }

    private static void published() {
        String safe = "final z;plain x;thread{z=1;done;x=1;}thread{r0=x;r1=r0.z;}";
        check(safe, "00000/2 11000/0", "00000/2 11000/0", "00000/2 11000/0");
        String early = "final z;plain x;thread{z=1;x=1;done;}thread{r0=x;r1=r0.z;}";
        check(early, "00000/2 11000/0", "00000/2 11000/0", "00000/2 10000/0 11000/0");
        String copied = "final z;plain x;thread{z=1;done;x=1;}thread{r2=x;r0=r2;r1=r0.z;}";
        check(copied, 2, "00000/2 10100/0 11100/0");
        String byRead = "final z;plain x;thread{z=1;done;x=1;}thread{r0=x;r1=z;}";
        check(byRead, 2, "00000/0 01000/0 10000/0 11000/0");
        String twice = "final z;plain x;thread{z=1;z=2;done;x=1;}thread{r0=x;r1=r0.z;}";
        check(twice, 2, "00000/2 12000/0");
        String own = "final z;plain x;thread{z=1;done;}thread{x=1;}thread{r0=x;r1=r0.z;}";
        check(own, 2, "00000/4 10000/0 11000/0");
        String constant = "final z;thread{z=3;done;}thread{r0=1;r1=r0.z;}";
        check(constant, 2, "10000/0 13000/0");
        String again = "final z;plain x;thread{z=1;done;x=1;}thread{r0=x;r0=r0.z;r1=r0.z;}";
        check(again, 2, "00000/2 11000/0");
        // The link to the later of two THROUGH READS holds for what the thread does then.
        String later = "final z;plain x;thread{z=1;done;x=1;}thread{r0=x;r1=r0.z;r2=1;r3=r2.z;}";
        check(later, 2, "00000/2 11110/0");
    }

    private static void values() {
        LitmusHouse house = House.fresh("plain x;thread{r0=x;r3=5;}thread{x=1;}");
        House.due("outcomes(0, 0)", house.outcomes(0, 0), 2);
        for (int order : new int[] {-1, 3, Integer.MIN_VALUE, Integer.MAX_VALUE}) {
            House.due("outcomes(0, " + order + ")", house.outcomes(0, order), -1);
            House.due("value(0, " + order + ", 0, 0)", house.value(0, order, 0, 0), -1);
            House.due("stuck(0, " + order + ", 0)", house.stuck(0, order, 0), -1);
            House.due("allowed(0, " + order + ")", house.allowed(0, order), -1);
        }
        for (int i : new int[] {-1, 2, Integer.MIN_VALUE, Integer.MAX_VALUE}) {
            House.due("value(0, 0, " + i + ", 0)", house.value(0, 0, i, 0), -1);
            House.due("stuck(0, 0, " + i + ")", house.stuck(0, 0, i), -1);
        }
        for (int l : new int[] {-1, 5, Integer.MIN_VALUE, Integer.MAX_VALUE}) {
            House.due("value(0, 0, 0, " + l + ")", house.value(0, 0, 0, l), -1);
        }
        House.due("value(0, 0, 1, 0)", house.value(0, 0, 1, 0), 1);
        House.due("value(0, 0, 1, 3)", house.value(0, 0, 1, 3), 5);
        House.due("value(0, 0, 1, 4) of one that does not stand there", house.value(0, 0, 1, 4), 0);
        for (int p : new int[] {-1, 8}) {
            House.due("outcomes of " + p, House.thrown(() -> house.outcomes(p, 0)), House.OUT_OF_BOUNDS);
            House.due("value of " + p, House.thrown(() -> house.value(p, 0, 0, 0)), House.OUT_OF_BOUNDS);
            House.due("stuck of " + p, House.thrown(() -> house.stuck(p, 0, 0)), House.OUT_OF_BOUNDS);
            House.due("allowed of " + p, House.thrown(() -> house.allowed(p, 0)), House.OUT_OF_BOUNDS);
        }
        House.due("outcomes of 1", House.thrown(() -> house.outcomes(1, 9)), House.NO_SUCH_ELEMENT);
        House.due("value of 1", House.thrown(() -> house.value(1, 9, 9, 9)), House.NO_SUCH_ELEMENT);
        House.due("stuck of 1", House.thrown(() -> house.stuck(1, 9, 9)), House.NO_SUCH_ELEMENT);
        House.due("allowed of 1", House.thrown(() -> house.allowed(1, 9)), House.NO_SUCH_ELEMENT);
        House.load(house, 0, "thread{r0=7;}");
        House.due("another program, other outcomes", House.outcomes(house, 0, 0), "70000/0");
    }

    private static void stuck() {
        check("thread{lock m0;lock m1;unlock m1;unlock m0;}thread{lock m1;lock m0;unlock m0;unlock m1;}",
            "00000/0 00000/3", "00000/0 00000/3", "00000/0 00000/3");
        check("thread{lock m0;}thread{lock m0;}thread{lock m0;}", 0, "00000/3 00000/5 00000/6");
        check("final z;thread{r0=r1.z;}thread{}thread{r2=r3.z;}", 2, "00000/5");
        check("final z;thread{}thread{}thread{}thread{r0=r0.z;}", 1, "00000/8");
        check("final z;thread{r1=1;r0=r1.z;}", 1, "01000/0");
    }

    private static void wishes() {
        LitmusHouse house = House.fresh("plain x y;thread{x=1;r0=y;}thread{y=1;r1=x;}", "plain x;thread{r0=x;}thread{x=9;}");
        House.due("allowed without a wish", house.allowed(0, 1), 4);
        House.due("wish(0, 1)", house.wish(0, 1), true);
        House.due("allowed(0, 0)", house.allowed(0, 0), 2);
        House.due("allowed(0, 1)", house.allowed(0, 1), 2);
        House.due("wish(1, 0)", house.wish(1, 0), true);
        House.due("allowed(0, 0), both", house.allowed(0, 0), 1);
        House.due("wish(0, 0)", house.wish(0, 0), true);
        House.due("allowed(0, 0), none", house.allowed(0, 0), 0);
        House.due("allowed(0, 1), one", house.allowed(0, 1), 1);
        House.due("allowed(0, 2), one", house.allowed(0, 2), 1);
        for (int l : new int[] {-1, 5, Integer.MIN_VALUE, Integer.MAX_VALUE}) {
            House.due("wish(" + l + ", 0)", house.wish(l, 0), false);
        }
        for (int v : new int[] {-2, 10, Integer.MIN_VALUE, Integer.MAX_VALUE}) {
            House.due("wish(0, " + v + ")", house.wish(0, v), false);
        }
        House.due("a refused one changes nothing", house.allowed(0, 1), 1);
        House.due("wish(1, NONE)", house.wish(1, -1), true);
        House.due("r1 is free", house.allowed(0, 1), 2);
        House.due("wish(0, 9)", house.wish(0, 9), true);
        House.due("allowed(1, 0)", house.allowed(1, 0), 1);
        House.due("wish(4, 0) of one that does not stand there", house.wish(4, 0), true);
        House.due("it has it", house.allowed(1, 0), 1);
        House.due("wish(4, 1)", house.wish(4, 1), true);
        House.due("it has it not", house.allowed(1, 0), 0);
    }
}
