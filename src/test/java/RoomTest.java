import java.lang.management.ManagementFactory;

/**
 * All calls of one run live in one room, where nothing is ever freed: 600,000 objects, 7.3 million
 * fields and elements. Bytes are what can be measured here: below 9 million of them there are
 * neither so many objects (16 bytes at least) nor so many elements (4 bytes, but for the text's).
 */
public final class RoomTest {
    private static final long ROOM = 9_000_000L;
    private static long most = 0L;
    private static final String[] DEAR = {
        "plain u;thread{r0=u;r1=u;}thread{u=4;u=6;}thread{u=2;u=7;}thread{r4=u;r4=u;}",
        "plain u v;thread{v=r0+9;r0=u;}thread{u=2;r2=v;}thread{u=3;r3=v;}thread{v=6;r4=u;}",
        "volatile u;thread{r0=u;r1=u;}thread{u=r2+3;u=r2+9;}thread{u=7;r3=u;}thread{r4=u;u=r4+5;}",
        "plain u;thread{r0=u;r1=u;r2=u;r3=u;r4=u;}thread{u=1;}thread{u=2;}thread{u=3;}",
        "plain u v w x y;thread{u=1;r0=v;}thread{v=1;r1=w;}thread{w=1;r2=x;}thread{x=1;r3=u;}",
        "plain x;thread{x=1;}thread{x=2;}thread{x=3;}thread{r0=x;r1=x;r2=x;r3=x;r4=x;}",
    };

    public static void main(String[] args) {
        for (String text : DEAR) {
            room("outcomes of " + text, text, 0);
            room("the other searches of " + text, text, 1);
            room("loads of " + text, text, 2);
        }
        room("faults", "thread{", 3);
        room("new objects", "thread{}", 4);
        System.out.println("the dearest run took " + most + " bytes");
        House.close("room");
    }

    private static void room(String name, String text, int what) {
        com.sun.management.ThreadMXBean bean = (com.sun.management.ThreadMXBean) ManagementFactory.getThreadMXBean();
        long id = Thread.currentThread().getId();
        long start = bean.getThreadAllocatedBytes(id);
        LitmusHouse house = new LitmusHouse();
        House.load(house, 0, text);
        for (int n = 0; n < 490; n++) {
            call(house, n, what);
        }
        long used = bean.getThreadAllocatedBytes(id) - start;
        most = Math.max(most, used);
        House.due("room for " + name + " (" + used + " bytes)", used < ROOM, true);
    }

    private static void call(LitmusHouse house, int n, int what) {
        switch (what) {
            case 0:
                if (n % 2 == 0) {
                    house.make(0, 0, 0);
                } else {
                    house.outcomes(0, n / 2 % 3);
                }
                break;
            case 1:
                other(house, n);
                break;
            case 2:
                if (n % 3 == 0) {
                    house.print(0);
                } else if (n % 3 == 1) {
                    house.take();
                } else {
                    house.load(0);
                }
                break;
            case 3:
                house.load(0);
                break;
            default:
                // A run may make a few objects more.
                if (n % 25 == 0) {
                    House.load(new LitmusHouse(), 0, "thread{}");
                }
                break;
        }
    }

    private static void other(LitmusHouse house, int n) {
        switch (n % 6) {
            case 0:
                house.make(0, 0, 0);
                break;
            case 1:
                house.witness(0);
                break;
            case 2:
                house.races(0);
                break;
            case 3:
                house.before(0, 0, 1);
                break;
            case 4:
                house.fence(0, 1);
                break;
            default:
                house.fence(0, 2);
                break;
        }
    }
}
