/** Promises 1 to 6: a new object, feed, end, load, fault, drop. */
public final class TapeTest {
    private static final String SMALL = "plain x;thread{x=1;}";

    public static void main(String[] args) {
        newObject();
        feed();
        end();
        load();
        fault();
        drop();
        House.close("tape");
    }

    private static void newObject() {
        LitmusHouse house = new LitmusHouse();
        for (int p = 0; p < 8; p++) {
            int place = p;
            House.due("look(" + p + ", 0) of a new one", House.thrown(() -> house.look(place, 0)), House.NO_SUCH_ELEMENT);
        }
        House.due("end(1) of a new one", house.end(1), false);
        House.due("end(0) of a new one", house.end(0), true);
        House.due("out(0) of a new one", house.out(0), -1);
        House.due("step(0) of a new one", house.step(0), -1);
        House.due("fault(0) of a new one", house.fault(0), 0);
        House.due("fault(1) of a new one", house.fault(1), -1);
        House.due("take() of a new one", house.take(), 0);
        House.load(house, 0, "plain x;thread{r0=x;}thread{x=1;}");
        House.due("all meet no wish", house.allowed(0, 0), 2);
        LitmusHouse other = new LitmusHouse();
        House.due("another object has nothing of it", House.thrown(() -> other.look(0, 0)), House.NO_SUCH_ELEMENT);
        House.due("NONE", LitmusHouse.NONE, -1);
    }

    private static void feed() {
        LitmusHouse house = new LitmusHouse();
        for (int i = 1; i <= 50; i++) {
            House.due("feed " + i, house.feed(0x20202020, 0x20202020, 0x20202020, 0x20202020, 0x20202020), 20 * i);
        }
        House.due("feed beyond 1000", house.feed(0x21212121, 0, 0, 0, 0), -1);
        House.due("all blanks", house.load(0), -1);
        House.due("its fault", house.fault(0), 7);
        House.due("its place", house.fault(1), 1000);
        for (int i = 0; i < 50; i++) {
            house.feed(0x20202020, 0x20202020, 0x20202020, 0x20202020, 0x20202020);
        }
        House.due("end(981)", house.end(981), true);
        House.due("feed to 1001", house.feed(0, 0, 0, 0, 0), -1);
        House.due("it is 981 still", house.end(982), false);
        House.due("end(980)", house.end(980), true);
        House.due("feed to 1000", house.feed(0x20202020, 0x20202020, 0x20202020, 0x20202020, -1), 1000);
        house.load(0);
        House.due("the highest byte first: 255 at 996", house.fault(0) + " " + house.fault(1), "1 996");
        LitmusHouse bytes = new LitmusHouse();
        bytes.feed(0x74687265, 0x61647B7D, 0x20202020, 0x20202020, 0x20200A21);
        bytes.load(0);
        House.due("the lowest byte last", bytes.fault(0) + " " + bytes.fault(1), "1 19");
        bytes.feed(0x74687265, 0x61647B7D, 0x20202020, 0x20202020, 0x2020200A);
        House.due("thread{} and blanks", bytes.load(0), 0);
        bytes.feed(Integer.MIN_VALUE, Integer.MAX_VALUE, -1, 0, 1);
        House.due("bytes that are none", bytes.load(0), -1);
        House.due("at the first", bytes.fault(1), 0);
    }

    private static void end() {
        LitmusHouse house = new LitmusHouse();
        House.feed(house, "thread{}!");
        House.due("end(10)", house.end(10), false);
        House.due("end(-1)", house.end(-1), false);
        House.due("end(MIN)", house.end(Integer.MIN_VALUE), false);
        House.due("end(MAX)", house.end(Integer.MAX_VALUE), false);
        House.due("end(9) is all of it", house.end(9), true);
        House.due("end(8)", house.end(8), true);
        House.due("what was cut is gone", house.end(9), false);
        House.due("load", house.load(0), 0);
        House.due("the tape is empty then", house.end(1), false);
    }

    private static void load() {
        LitmusHouse house = new LitmusHouse();
        House.feed(house, SMALL);
        for (int p : new int[] {-1, 8, Integer.MIN_VALUE, Integer.MAX_VALUE}) {
            House.due("load(" + p + ")", House.thrown(() -> house.load(p)), House.OUT_OF_BOUNDS);
        }
        House.due("the tape stays", house.end(20), true);
        House.due("load(7)", house.load(7), 1);
        House.due("a fault", House.load(house, 7, "thread{"), -1);
        House.due("the tape is empty then, too", house.end(1), false);
        House.due("the place stays", house.look(7, 1), 1);
        House.due("load over it", House.load(house, 7, "thread{lock m0;unlock m0;}"), 2);
        House.due("it is another one now", house.look(7, 1), 2);
        House.due("no actions", House.load(house, 6, "thread{r0=1;}"), 0);
        House.due("eight actions", House.load(house, 5, "plain x;thread{x=1;x=1;x=1;x=1;x=1;x=1;x=1;x=1;}"), 8);
        House.due("blanks all over", House.load(house, 4, " \n plain \n x\ny ; thread { x = r0 + 1 ; } \n"), 1);
        House.due("no blanks at all", House.load(house, 4, "plain x;thread{if r0==0{x=r0+1;}else{r0=x;}}"), 2);
    }

    private static void fault() {
        LitmusHouse house = new LitmusHouse();
        House.due("fault(2)", house.fault(2), -1);
        House.due("fault(-1)", house.fault(-1), -1);
        House.load(house, 0, "plain x");
        House.due("what 0", house.fault(0), 1);
        House.due("what 1", house.fault(1), 7);
        House.due("what 2", house.fault(2), -1);
        House.due("load(8)", House.thrown(() -> house.load(8)), House.OUT_OF_BOUNDS);
        House.due("a refused load is none", house.fault(0) + " " + house.fault(1), "1 7");
        House.load(house, 0, SMALL);
        House.due("without one", house.fault(0) + " " + house.fault(1), "0 -1");
    }

    private static void drop() {
        LitmusHouse house = House.fresh(SMALL);
        House.due("drop(0)", house.drop(0), true);
        House.due("it is gone", House.thrown(() -> house.look(0, 0)), House.NO_SUCH_ELEMENT);
        House.due("drop(0) again", house.drop(0), false);
        House.due("drop(7)", house.drop(7), false);
        House.due("drop(-1)", House.thrown(() -> house.drop(-1) ? 1 : 0), House.OUT_OF_BOUNDS);
        House.due("drop(8)", House.thrown(() -> house.drop(8) ? 1 : 0), House.OUT_OF_BOUNDS);
        House.due("load again", House.load(house, 0, SMALL), 1);
        House.due("it is there", house.look(0, 0), 1);
    }
}
