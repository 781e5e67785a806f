import java.util.ArrayList;
import java.util.List;
import java.util.TreeSet;

/** The boundaries that 'II. RUNS' and 'III. OUTCOMES' name. */
final class StepEdges {
    private StepEdges() {
    }

    static void all() {
        zeroAtFirst();
        stepsAreActions();
        runsEnd();
        atOnce();
        asTheRunBegins();
        moduloTen();
        justThatValue();
        monitorFree();
        throughZero();
        ofNoLocal();
        stuck();
        sequential();
        queueBehind();
        emptying();
        ownQueue();
        emptyQueueAlone();
        threadOrder();
        unlockBeforeLock();
        volatileSeen();
        doneBefore();
        latestVolatile();
        anyWrite();
        hidden();
        zeroHidden();
        eachOnce();
        sorted();
        wished();
        races();
        fence();
        witness();
        alike();
    }

    /** The same in all three orders. */
    private static void each(String text, String want) {
        for (int order = 0; order < 3; order++) {
            Edge.outcomes(text, order, want);
        }
    }

    private static void zeroAtFirst() {
        Edge.about("II", "CELLS and LOCALS are 0 at first, MONITORS free.");
        each("plain u;volatile v;final w;thread{r0=u;r1=v;r2=w;r3=r4;}", "00000/0");
        each("thread{lock m0;lock m1;r0=1;}", "10000/0");
        each("thread{if r3==0{r0=1;}}", "10000/0");
    }

    private static void stepsAreActions() {
        Edge.about("II", "Threads do STEPS, each one ACTION;");
        for (int n = 0; n <= 8; n++) {
            LitmusHouse house = House.fresh("thread{r0=1;" + "lock m0;r0=2;unlock m0;".repeat(n / 2) + "done;".repeat(n % 2) + "}");
            Edge.due("STEPS of " + n + " ACTIONS", house.witness(0), n);
        }
    }

    private static void runsEnd() {
        Edge.about("II", "The run ends when no thread can do a STEP.");
        // No run is over while another thread than the one that waits can go on.
        LitmusHouse house = House.fresh("plain x;thread{lock m0;}thread{lock m0;}thread{x=1;x=2;r0=x;}", "final z;thread{r0=r1.z;}thread{done;}");
        Edge.due("STEPS of a run that leaves one waiting", RunEdges.witness(house, 0), "0222");
        Edge.due("STEPS of one that waits from the beginning", RunEdges.witness(house, 1), "1");
        each("plain x;thread{lock m0;}thread{lock m0;}thread{x=1;r0=x;}", "10000/1 10000/2");
    }

    private static void atOnce() {
        Edge.about("II", "E's that come to LOCALS and ifs are done at once behind the ACTION ahead of them");
        // Behind its READ the thread has r1 and r2 at once, stuck or not.
        each("plain x;final z;thread{r0=x;r1=r0+1;if r1==1{r2=5;}r0=0;r3=r0.z;}", "01500/1");
        Edge.due("they are no STEPS", House.fresh("plain x;thread{r0=1;r0=x;r1=r0;if r1==0{r2=1;}x=r2;r3=2;}").witness(0), 2);
    }

    private static void asTheRunBegins() {
        Edge.about("II", "(or as the run begins)");
        each("final z;thread{r0=3;if r0==3{r1=4;}else{r1=5;}r2=r3.z;}", "34000/1");
        each("thread{r0=1;}thread{r1=2;}thread{r2=3;}thread{r3=4;}", "12340/0");
        each("thread{lock m0;}thread{r0=7;lock m0;r0=8;}", "70000/2 80000/1");
    }

    private static void moduloTen() {
        Edge.about("II", "LOCAL + DIGIT is modulo 10.");
        for (int v = 0; v < 10; v++) {
            for (int d = 0; d < 10; d++) {
                int sum = (v + d) % 10;
                String text = "plain x;thread{r0=" + v + ";r1=r0+" + d + ";x=r0+" + d + ";r2=x;if r1==" + sum + "{r3=1;}}";
                each(text, "" + v + sum + sum + "10/0");
            }
        }
        each("thread{r0=9;r0=r0+9;r0=r0+9;r0=r0+9;}", "60000/0");
    }

    private static void justThatValue() {
        Edge.about("II", "if: the LOCAL has just that value.");
        for (int v = 0; v < 10; v++) {
            for (int d = 0; d < 10; d++) {
                each("thread{r0=" + v + ";if r0==" + d + "{r1=1;}else{r1=2;}if r0==" + d + "{r2=1;}}", v + (v == d ? "1100/0" : "2000/0"));
            }
        }
    }

    private static void monitorFree() {
        Edge.about("II", "lock can be done if the MONITOR is free; it is the thread's till its unlock.");
        each("thread{lock m0;r0=1;}thread{lock m0;r1=1;}", "01000/1 10000/2");
        each("thread{lock m0;unlock m0;r0=1;}thread{lock m0;r1=1;}", "01000/1 11000/0");
        each("thread{lock m0;r0=1;}thread{lock m1;r1=1;}", "11000/0");
        each("thread{lock m1;}thread{lock m0;lock m1;r0=1;}thread{lock m0;r1=1;}", "00000/6 01000/2 10000/5");
        each("thread{lock m0;}thread{lock m0;}thread{lock m0;}thread{lock m0;}", "00000/7 00000/11 00000/13 00000/14");
        for (int t = 0; t < 4; t++) {
            // Each thread in turn gives back what the others wait for; what it keeps, it keeps.
            String own = "thread{lock m0;lock m1;unlock m";
            String other = "thread{lock m";
            for (int m = 0; m < 2; m++) {
                String waits = "thread{}".repeat(t) + own + m + ";r0=1;}" + "thread{}".repeat(3 - t);
                int next = (t + 1) % 4;
                String text = replaceThread(waits, next, other + m + ";r1=1;}");
                each(text, "01000/" + (1 << t) + " 11000/0");
                String kept = replaceThread(waits, next, other + (1 - m) + ";r1=1;}");
                each(kept, "01000/" + (1 << t) + " 10000/" + (1 << next));
            }
        }
    }

    /** The text's empty thread t is another one. */
    private static String replaceThread(String text, int t, String thread) {
        int at = 0;
        for (int n = 0; n < t; n++) {
            at = text.indexOf("thread", at + 1);
        }
        return text.substring(0, at) + thread + text.substring(at + "thread{}".length());
    }

    private static void throughZero() {
        Edge.about("II", "A THROUGH READ can't be done while the LOCAL behind its = is 0.");
        each("final z;thread{r0=r1.z;r2=1;}", "00000/1");
        each("final z;thread{r1=1;r0=r1.z;r2=1;}", "01100/0");
        each("final z;thread{r1=9;r1=r1+1;r0=r1.z;r2=1;}", "00000/1");
        each("final z;thread{z=5;r0=1;r0=r0.z;r0=r0.z;}", "50000/0");
        each("final z;thread{r0=1;r0=r0.z;r1=r0.z;}", "00000/1");
    }

    private static void ofNoLocal() {
        Edge.about("II", "OUTCOME: the values of r0 .. r4 (0 of those that do not stand in the text),");
        each("thread{}", "00000/0");
        each("thread{r4=9;}", "00009/0");
        each("thread{r0=9;}", "90000/0");
        each("thread{r0=1;r1=2;r2=3;r3=4;r4=5;}", "12345/0");
        each("thread{r0=9;r1=9;r2=9;r3=9;r4=9;}", "99999/0");
    }

    private static void stuck() {
        Edge.about("II", "and the STUCK threads: those that have not come to their end.");
        String block = "r0=r0.z;";
        for (int set = 0; set < 16; set++) {
            StringBuilder text = new StringBuilder("final z;");
            for (int t = 0; t < 4; t++) {
                text.append((set >> t & 1) != 0 ? "thread{" + block.replace("r0", "r" + t) + "}" : "thread{}");
            }
            each(text.toString(), "00000/" + set);
        }
        each("final z;thread{if r0==1{r0=r0.z;}}", "00000/0");
        each("thread{lock m0;}", "00000/0");
    }

    private static void sequential() {
        Edge.about("II", "0 SEQUENTIAL: a WRITE changes the cell, a READ (THROUGH, too) has its value. done is nothing.");
        Edge.outcomes("plain x;thread{x=1;r0=x;x=2;r1=x;}", 0, "12000/0");
        Edge.outcomes("final z;thread{z=7;r0=1;r1=r0.z;done;r2=z;}", 0, "17700/0");
        Edge.outcomes("thread{done;r0=1;}", 0, "10000/0");
        Edge.outcomes("plain x;thread{x=1;}thread{r0=x;}", 0, "00000/0 10000/0");
        Edge.outcomes("plain x;thread{x=1;x=2;x=3;x=4;x=5;x=6;x=7;}thread{r0=x;}", 0, to(7));
    }

    /** r0 comes to each value from 0 on. */
    private static String to(int last) {
        StringBuilder text = new StringBuilder();
        for (int v = 0; v <= last; v++) {
            text.append(v > 0 ? " " : "").append(v).append("0000/0");
        }
        return text.toString();
    }

    private static void queueBehind() {
        Edge.about("II", "1 QUEUED: a WRITE comes behind the others in its thread's QUEUE.");
        Edge.outcomes("plain x;thread{x=1;x=2;x=3;x=4;x=5;x=6;x=7;}thread{r0=x;}", 1, to(7));
        Edge.outcomes("plain x;thread{x=1;x=2;}thread{r0=x;r1=x;}", 1, "00000/0 01000/0 02000/0 11000/0 12000/0 22000/0");
        Edge.outcomes("plain x y;thread{x=1;y=1;}thread{r0=y;r1=x;}", 1, "00000/0 01000/0 11000/0");
        Edge.outcomes("plain x;thread{x=1;x=2;x=3;x=4;x=5;x=6;x=7;x=8;r0=9;}", 1, "90000/0");
    }

    private static void emptying() {
        Edge.about("II", "A thread with a QUEUE that is not empty may always do a STEP that EMPTIES its first one: the cell changes.");
        // Held up at its lock the thread's WRITE still comes out.
        Edge.outcomes("plain x;thread{lock m0;r0=x;}thread{x=1;lock m0;}", 1, "00000/1 00000/2 10000/2");
        Edge.outcomes("plain x;thread{x=1;}thread{r0=x;}", 1, "00000/0 10000/0");
        Edge.outcomes("plain x y;thread{x=1;y=2;r0=x;r1=y;}thread{r2=x;r3=y;}", 1, "12000/0 12020/0 12100/0 12120/0");
    }

    private static void ownQueue() {
        Edge.about("II", "A READ has the value of the latest WRITE of that cell in its own thread's QUEUE, or else the cell's.");
        Edge.outcomes("plain x;thread{x=1;x=2;r0=x;}", 1, "20000/0");
        Edge.outcomes("plain x y;thread{x=1;y=2;r0=x;r1=y;}", 1, "12000/0");
        Edge.outcomes("plain x y;thread{x=1;r0=y;}thread{y=3;}", 1, "00000/0 30000/0");
        Edge.outcomes("final z;thread{z=4;r0=1;r1=r0.z;}", 1, "14000/0");
        Edge.outcomes("plain x;thread{x=1;r0=x;}thread{x=2;}", 1, "10000/0 20000/0");
        Edge.outcomes("plain x y;thread{x=1;r0=x;r1=y;}thread{y=1;r2=y;r3=x;}", 1, "10100/0 10110/0 11100/0 11110/0");
    }

    private static void emptyQueueAlone() {
        Edge.about("II", "READS of volatile cells, lock and unlock can be done with an empty QUEUE alone.");
        String[] between = {"", "done;", "lock m0;", "lock m0;unlock m0;"};
        for (int i = 0; i < 4; i++) {
            String want = i < 2 ? "00000/0 01000/0 10000/0 11000/0" : "01000/0 10000/0 11000/0";
            String other = i < 2 ? "" : between[i].replace("m0", "m1");
            Edge.outcomes("plain x y;thread{x=1;" + between[i] + "r0=y;}thread{y=1;" + other + "r1=x;}", 1, want);
        }
        Edge.outcomes("plain x y;thread{lock m0;x=1;unlock m0;r0=y;}thread{lock m1;y=1;unlock m1;r1=x;}", 1, "01000/0 10000/0 11000/0");
        Edge.outcomes("volatile x y;thread{x=1;r0=y;}thread{y=1;r1=x;}", 1, "01000/0 10000/0 11000/0");
        Edge.outcomes("plain x y;volatile v;thread{x=1;r2=v;r0=y;}thread{y=1;r3=v;r1=x;}", 1, "01000/0 10000/0 11000/0");
        // A WRITE of a volatile cell goes into the QUEUE as any other.
        Edge.outcomes("plain x y;volatile v;thread{x=1;v=1;r0=y;}thread{y=1;v=1;r1=x;}", 1, "00000/0 01000/0 10000/0 11000/0");
    }

    private static void threadOrder() {
        Edge.about("II", "2 LOOSE: BEFORE is the least relation of ACTIONS that are done: it goes from one to the next; what a thread did ahead is BEFORE what it does;");
        LitmusHouse house = House.fresh("plain x;thread{x=1;x=2;x=3;x=4;}thread{x=5;x=6;x=7;x=8;}");
        for (int a = 0; a < 8; a++) {
            for (int b = 0; b < 8; b++) {
                int want = a == b ? -1 : a / 4 == b / 4 && a < b ? 1 : 3;
                Edge.due("before(0, " + a + ", " + b + ")", house.before(0, a, b), want);
            }
        }
        Edge.outcomes("plain x;volatile v w;thread{x=1;v=1;}thread{r0=v;w=r0;}thread{r1=w;r2=x;}", 2,
            "00000/0 00100/0 10000/0 10100/0 11100/0");
    }

    private static void unlockBeforeLock() {
        Edge.about("II", "an unlock is BEFORE each later lock of that MONITOR;");
        Edge.outcomes("plain x;thread{lock m0;x=1;unlock m0;}thread{lock m0;r0=x;unlock m0;}", 2, "00000/0 10000/0");
        Edge.outcomes("plain x;thread{lock m0;unlock m0;x=1;}thread{lock m0;unlock m0;r0=x;r1=x;}", 2, "00000/0 01000/0 10000/0 11000/0");
        // The third thread keeps the MONITOR: the others' unlocks were ahead of its lock.
        LitmusHouse house = House.fresh("thread{lock m0;unlock m0;}thread{lock m0;unlock m0;}thread{lock m0;lock m1;}");
        Edge.due("before(0, 1, 4)", house.before(0, 1, 4), 1);
        Edge.due("before(0, 3, 4)", house.before(0, 3, 4), 1);
        Edge.due("before(0, 1, 2)", house.before(0, 1, 2), 2);
        LitmusHouse other = House.fresh("thread{lock m0;unlock m0;}thread{lock m1;}");
        Edge.due("before(0, 1, 2) of another MONITOR", other.before(0, 1, 2), 3);
    }

    private static void volatileSeen() {
        Edge.about("II", "a WRITE of a volatile cell is BEFORE the READS that see it;");
        Edge.outcomes("plain x;volatile v;thread{x=1;v=1;}thread{r0=v;r1=x;}", 2, "00000/0 01000/0 11000/0");
        Edge.outcomes("plain x;volatile v;thread{x=1;v=1;}thread{v=2;}thread{r0=v;r1=x;}", 2,
            "00000/0 01000/0 11000/0 20000/0 21000/0");
        Edge.outcomes("plain x v;thread{x=1;v=1;}thread{r0=v;r1=x;}", 2, "00000/0 01000/0 10000/0 11000/0");
        // The 0 at first is no WRITE, though one writes 0.
        Edge.outcomes("plain x;volatile v;thread{x=1;v=0;}thread{r0=v;r1=x;}", 2, "00000/0 01000/0");
    }

    private static void doneBefore() {
        Edge.about("II", "done is BEFORE a THROUGH READ, if the LOCAL behind its = had its value by a READ (the latest STATEMENT that gave it one was that) "
            + "that saw a WRITE of the MAKER behind done.");
        String maker = "final z;plain x;thread{z=5;done;x=1;}thread{";
        Edge.outcomes(maker + "r0=x;r1=r0.z;}", 2, "00000/2 15000/0");
        Edge.outcomes(maker + "r2=x;r0=r2;r1=r0.z;}", 2, "00000/2 10100/0 15100/0");
        Edge.outcomes(maker + "r0=x;r0=r0+0;r1=r0.z;}", 2, "00000/2 10000/0 15000/0");
        Edge.outcomes(maker + "r0=1;r0=x;r1=r0.z;}", 2, "00000/2 15000/0");
        Edge.outcomes(maker + "r2=x;r0=1;r1=r0.z;}", 2, "10000/0 10100/0 15000/0 15100/0");
        Edge.outcomes(maker + "r0=x;r1=z;}", 2, "00000/0 05000/0 10000/0 15000/0");
        Edge.outcomes("final z;plain x;thread{z=5;x=1;done;}thread{r0=x;r1=r0.z;}", 2, "00000/2 10000/0 15000/0");
        Edge.outcomes("final z;plain x;thread{z=5;done;}thread{x=1;}thread{r0=x;r1=r0.z;}", 2, "00000/4 10000/0 15000/0");
        Edge.outcomes("final z;volatile x;thread{z=5;done;x=1;}thread{r0=x;r1=r0.z;}", 2, "00000/2 15000/0");
        Edge.outcomes("final z;plain x;thread{z=5;done;if r4==0{x=1;}}thread{r0=x;r1=r0.z;}", 2, "00000/2 15000/0");
        // done as the first ACTION of all, and as the last one's.
        LitmusHouse first = House.fresh("final z;plain x;thread{done;x=1;}thread{r0=x;r1=r0.z;}", "final z;plain x;thread{r0=x;r1=r0.z;}thread{done;x=1;}");
        Edge.due("before(0, 0, 3)", first.before(0, 0, 3), 1);
        Edge.due("before(0, 1, 3)", first.before(0, 1, 3), 3);
        Edge.due("before(1, 2, 1)", first.before(1, 2, 1), 1);
        Edge.due("before(1, 3, 1)", first.before(1, 3, 1), 3);
    }

    private static void latestVolatile() {
        Edge.about("II", "A READ of a volatile cell sees the latest WRITE of it (0, if there is none).");
        Edge.outcomes("volatile v;thread{r0=v;v=1;r1=v;v=2;r2=v;}", 2, "01200/0");
        Edge.outcomes("volatile v;thread{v=1;v=2;}thread{r0=v;r1=v;}", 2, "00000/0 01000/0 02000/0 11000/0 12000/0 22000/0");
        Edge.outcomes("volatile v;thread{v=1;r0=v;}thread{v=2;}", 2, "10000/0 20000/0");
        Edge.outcomes("plain u;volatile v;thread{u=3;r0=v;}", 2, "00000/0");
    }

    private static void anyWrite() {
        Edge.about("II", "A READ of another cell (THROUGH, too) sees any WRITE of it that was done, or the 0 at first, that is not HIDDEN:");
        Edge.outcomes("plain x;thread{x=1;x=2;x=3;}thread{r0=x;}", 2, "00000/0 10000/0 20000/0 30000/0");
        Edge.outcomes("final x;thread{x=1;x=2;}thread{r0=1;r1=r0.x;r2=x;}", 2,
            "10000/0 10100/0 10200/0 11000/0 11100/0 11200/0 12000/0 12100/0 12200/0");
        // One that is not done yet is seen by nobody: not by its own thread, and not in a ring.
        Edge.outcomes("plain x;thread{r0=x;x=1;}", 2, "00000/0");
        Edge.outcomes("plain x y;thread{r0=y;x=1;}thread{r1=x;y=1;}", 2, "00000/0 01000/0 10000/0");
        Edge.outcomes("plain x;thread{if r0==1{x=1;}}thread{r1=x;}", 2, "00000/0");
    }

    private static void hidden() {
        Edge.about("II", "a WRITE w is HIDDEN, if some WRITE of the cell that w is BEFORE is BEFORE the READ;");
        Edge.outcomes("plain x;thread{x=1;x=2;x=3;r0=x;}", 2, "30000/0");
        Edge.outcomes("plain x;thread{x=1;x=2;}thread{r0=x;r1=x;}", 2,
            "00000/0 01000/0 02000/0 10000/0 11000/0 12000/0 20000/0 21000/0 22000/0");
        // Another thread's WRITE is BEFORE none of its own: it hides nothing and is not hidden.
        Edge.outcomes("plain x;thread{x=1;x=2;r0=x;}thread{x=3;}", 2, "20000/0 30000/0");
        Edge.outcomes("plain x y;thread{x=1;y=2;r0=x;}", 2, "10000/0");
        Edge.outcomes("final z;thread{z=1;z=2;r0=1;r1=r0.z;r2=z;}", 2, "12200/0");
        Edge.outcomes("plain x;thread{lock m0;x=1;unlock m0;}thread{lock m0;x=2;r0=x;unlock m0;}", 2, "20000/0");
        // Two threads' WRITES hide what each of them was behind.
        Edge.outcomes("plain x;volatile v;thread{x=1;x=2;v=1;}thread{x=3;x=4;r0=v;r1=x;}", 2, "01000/0 02000/0 04000/0 12000/0 14000/0");
        Edge.outcomes("plain x;volatile v;thread{x=3;x=4;r0=v;r1=x;}thread{x=1;x=2;v=1;}", 2, "01000/0 02000/0 04000/0 12000/0 14000/0");
    }

    private static void zeroHidden() {
        Edge.about("II", "the 0, if some WRITE of the cell is BEFORE it.");
        Edge.outcomes("plain x;thread{x=1;r0=x;}", 2, "10000/0");
        Edge.outcomes("plain x;thread{r0=x;x=1;}", 2, "00000/0");
        Edge.outcomes("plain x;thread{x=1;}thread{r0=x;r1=x;}", 2, "00000/0 01000/0 10000/0 11000/0");
        Edge.outcomes("plain x y;thread{y=1;r0=x;}thread{x=1;}", 2, "00000/0 10000/0");
    }

    private static void eachOnce() {
        Edge.about("III", "OUTCOMES of an order (0, 1, 2): each one once that some run has;");
        each("plain x;thread{x=1;x=1;}thread{x=1;x=1;}thread{x=1;}", "00000/0");
        Edge.outcomes("plain x;thread{x=1;}thread{x=1;}thread{r0=x;}", 2, "00000/0 10000/0");
        LitmusHouse house = House.fresh("plain x;thread{x=1;}thread{x=2;}thread{x=3;}thread{r0=x;r1=x;r2=x;r3=x;r4=x;}");
        Edge.due("the most that one cell can come to", house.outcomes(0, 2), 1024);
        Edge.due("the last one's r4", house.value(0, 2, 1023, 4), 3);
        Edge.due("the one behind it", house.value(0, 2, 1024, 4), -1);
        for (int i = 0; i < 50; i++) {
            int at = i * 20;
            Edge.due("r2 of OUTCOME " + at, house.value(0, 2, at, 2), at / 16 % 4);
        }
    }

    private static void sorted() {
        Edge.about("III", "by r0, then r1 .. r4, then the STUCK threads as bits.");
        for (int l = 0; l < 4; l++) {
            // The lesser LOCAL goes ahead, whatever the later ones are.
            String text = "plain x;thread{r" + l + "=x;r" + (l + 1) + "=9;if r" + l + "==1{r" + (l + 1) + "=0;}}thread{x=1;}";
            String low = "00000".substring(0, l) + "09" + "00000".substring(l + 2) + "/0";
            String high = "00000".substring(0, l) + "10" + "00000".substring(l + 2) + "/0";
            each(text, low + " " + high);
        }
        each("thread{lock m0;}thread{lock m0;}thread{}thread{lock m0;}", "00000/3 00000/9 00000/10");
        each("plain x;final z;thread{r4=x;r3=r4.z;}thread{x=1;}", "00000/1 00001/0");
        List<String> got = List.of(House.outcomes(House.fresh("plain x;thread{x=1;}thread{x=9;}thread{r0=x;r1=x;r4=x;}"), 0, 2).split(" "));
        Edge.due("27 in a row", new ArrayList<>(new TreeSet<>(got)), got);
        Edge.due("they are", got.size(), 27);
    }

    private static void wished() {
        Edge.about("III", "WISH: some LOCALS with values (none at first); an OUTCOME MEETS it, if it has these.");
        LitmusHouse house = House.fresh("plain x;thread{r0=x;r4=5;}thread{x=9;}");
        Edge.due("none at first", house.allowed(0, 0), 2);
        int[][] wishes = {{4, 5, 2}, {0, 9, 1}, {0, 0, 1}, {0, 1, 0}, {0, -1, 2}, {3, 0, 2}, {3, 1, 0}, {3, -1, 2}, {4, 0, 0}};
        for (int[] one : wishes) {
            house.wish(one[0], one[1]);
            Edge.due("allowed(0, 0) behind wish(" + one[0] + ", " + one[1] + ")", house.allowed(0, 0), one[2]);
        }
    }

    private static void races() {
        Edge.about("III", "A RACE: two ACTIONS of different threads, READS (THROUGH, too) or WRITES, one a WRITE at least, of one cell that is not volatile, "
            + "that are both done in some SEQUENTIAL run, none BEFORE the other one there");
        int[] count = {1, 0, 1, 0, 0, 0, 0, 1, 1, 0, 0};
        String[] texts = {"plain x;thread{x=1;}thread{x=1;}", "plain x;thread{x=1;x=2;r0=x;}", "plain x;thread{r0=x;}thread{x=1;}",
            "plain x;thread{r0=x;}thread{r1=x;}", "volatile x;thread{x=1;}thread{x=2;}", "plain x y;thread{x=1;}thread{y=1;}",
            "thread{lock m0;done;}thread{lock m0;}", "final z;thread{z=1;}thread{r0=z;}", "final z;thread{z=1;}thread{r0=1;r1=r0.z;}",
            "plain x;thread{x=1;}thread{if r0==1{x=2;}}", "plain x;thread{lock m0;x=1;}thread{lock m0;x=2;}"};
        for (int i = 0; i < texts.length; i++) {
            Edge.due("races of " + texts[i], House.fresh(texts[i]).races(0), count[i]);
        }
        Edge.about("III", "(as in 2, but without done; a READ sees the latest WRITE).");
        Edge.due("done does not help", House.fresh("final z;plain x;thread{z=1;done;x=1;}thread{r0=x;r1=r0.z;}").races(0), 2);
        Edge.due("the flag's READ sees the latest", House.fresh("plain x;volatile v;thread{x=1;v=1;}thread{r0=v;if r0==1{r1=x;}}").races(0), 0);
        // Back from 1 to 0 goes y in no SEQUENTIAL run: so x=2 is never done.
        String back = "plain x y;thread{y=1;x=1;}thread{r0=y;if r0==1{r1=y;if r1==0{x=2;}}}";
        Edge.due("races of " + back, House.fresh(back).races(0), 2);
        Edge.about("III", "By the lesser number, then the greater one.");
        LitmusHouse house = House.fresh("plain x;thread{x=1;x=1;}thread{x=1;x=1;}thread{x=1;x=1;}thread{x=1;x=1;}");
        int i = 0;
        for (int a = 0; a < 8; a++) {
            for (int b = a / 2 * 2 + 2; b < 8; b++) {
                Edge.due("RACE " + i, house.race(0, i, 0) + "-" + house.race(0, i, 1), a + "-" + b);
                i++;
            }
        }
        Edge.due("the most there can be", house.races(0) + " " + i, "24 24");
    }

    private static void fence() {
        Edge.about("III", "FENCE of an order (1, 2): the fewest plain cells, of several sets the least number (u is bit 0, v bit 1, ..), "
            + "which made volatile leave the SEQUENTIAL OUTCOMES alone.");
        // Each cell's bit in turn: a READ of it that goes back behind another one.
        for (int c = 0; c < 6; c++) {
            String text = "plain x;thread{x=1;}thread{r0=x;r1=x;}".replace('x', (char) ('u' + c));
            Edge.due("fence(0, 2) of " + text, House.fresh(text).fence(0, 2), 1 << c);
            Edge.due("fence(0, 1) of " + text, House.fresh(text).fence(0, 1), 0);
        }
        String[] either = {"plain u z;thread{u=1;z=1;}thread{r0=z;r1=u;}", "plain u z;thread{z=1;u=1;}thread{r0=u;r1=z;}"};
        for (String text : either) {
            Edge.due("either does: fence(0, 2) of " + text, House.fresh(text).fence(0, 2), 1);
        }
        String fewest = "plain u v z;thread{u=1;v=1;z=1;}thread{r0=z;r1=u;r2=v;}";
        Edge.due("fewer goes ahead of less: fence(0, 2) of " + fewest, House.fresh(fewest).fence(0, 2), 32);
        String ring = "plain u v w z;thread{u=1;r0=v;}thread{v=1;r1=w;}thread{w=1;r2=z;}thread{z=1;r3=u;}";
        Edge.due("all four: fence(0, 1) of " + ring, House.fresh(ring).fence(0, 1), 39);
        Edge.due("all four: fence(0, 2) of " + ring, House.fresh(ring).fence(0, 2), 39);
        String half = ring.replace("plain u v w z", "plain u v w;volatile z");
        Edge.due("the volatile one is none of them: " + half, House.fresh(half).fence(0, 2), 7);
    }

    private static void witness() {
        Edge.about("III", "WITNESS: of the SEQUENTIAL runs whose OUTCOME MEETS the WISH the one of the fewest STEPS, of these the first as a row of threads.");
        LitmusHouse house = House.fresh("plain x;thread{r0=x;if r0==0{x=2;x=3;}}thread{x=1;}",
            "plain x y;thread{x=1;r0=y;}thread{y=1;r1=x;}", "thread{lock m0;}thread{done;lock m0;}", "plain x;thread{}thread{x=1;}thread{}thread{x=2;}");
        Edge.due("the fewest STEPS", RunEdges.witness(house, 0), "10");
        Edge.due("the first row", RunEdges.witness(house, 1), "0011");
        Edge.due("a stuck run counts", RunEdges.witness(house, 2), "01");
        Edge.due("the first row of other threads", RunEdges.witness(house, 3), "13");
        house.wish(0, 1);
        house.wish(1, 1);
        Edge.due("the first row that meets", RunEdges.witness(house, 1), "0101");
    }

    private static void alike() {
        Edge.about("III", "ALIKE: threads, LOCALS, MONITORS, CELLS (each to one of its kind) of one can be renamed so that it is the other (declarations aside).");
        RunEdges.alike("thread{r0=1;}thread{r1=2;}", "thread{r4=2;}thread{r0=1;}", true);
        RunEdges.alike("thread{r0=1;}thread{r1=1;}", "thread{r0=1;}thread{r1=2;}", false);
        RunEdges.alike("thread{r0=r1;r2=r3;r4=r0;}", "thread{r4=r3;r2=r1;r0=r4;}", true);
        RunEdges.alike("thread{r0=1;r1=1;}", "thread{r0=1;r0=1;}", false);
        RunEdges.alike("thread{lock m0;lock m1;}", "thread{lock m1;lock m0;}", true);
        RunEdges.alike("thread{lock m0;lock m1;unlock m0;}", "thread{lock m0;lock m1;unlock m1;}", false);
        RunEdges.alike("plain u v w x y;thread{u=1;v=2;w=3;x=4;y=5;}", "plain v w x y z;thread{z=1;y=2;x=3;w=4;v=5;}", true);
        RunEdges.alike("plain u v;thread{u=1;v=1;}", "plain u v;thread{u=1;u=1;}", false);
        for (String kind : "volatile final".split(" ")) {
            RunEdges.alike("plain x;thread{x=1;}", kind + " x;thread{x=1;}", false);
            RunEdges.alike(kind + " x;thread{x=1;}", kind + " u;thread{u=1;}", true);
        }
        RunEdges.alike("plain u;thread{}", "volatile u;final v;thread{}", true);
        RunEdges.alike("plain x;plain y;thread{x=1;}", "plain y x;thread{y=1;}", true);
    }
}
