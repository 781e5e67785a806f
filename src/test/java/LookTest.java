/** Promises 7 to 12: look, kind, action, print, out, take. */
public final class LookTest {
    private static final String FULL = "final z;plain y x;volatile w;thread{r4=r0.z;if r0==3{lock m1;unlock m1;}else{"
        + "if r4==0{}}x=r0+9;}thread{z=2;done;y=1;r2=w;}";

    public static void main(String[] args) {
        look();
        kind();
        action();
        print();
        out();
        take();
        House.close("look");
    }

    /** What every call with a PLACE throws. */
    private static void places(String name, java.util.function.IntUnaryOperator call) {
        for (int p : new int[] {-1, 8, Integer.MIN_VALUE, Integer.MAX_VALUE}) {
            House.due(name + " of place " + p, House.thrown(() -> call.applyAsInt(p)), House.OUT_OF_BOUNDS);
        }
        for (int p : new int[] {1, 7}) {
            House.due(name + " of place " + p, House.thrown(() -> call.applyAsInt(p)), House.NO_SUCH_ELEMENT);
        }
    }

    private static void look() {
        LitmusHouse house = House.fresh(FULL);
        int[] want = {2, 8, 4, 3, 1, 10, 1, -1};
        for (int what = 0; what < want.length; what++) {
            House.due("look(0, " + what + ")", house.look(0, what), want[what]);
        }
        House.due("look(0, -1)", house.look(0, -1), -1);
        places("look", p -> house.look(p, 0));
        places("look with another what", p -> house.look(p, 99));
        House.load(house, 0, "plain u v w x y;thread{}");
        int[] bare = {1, 0, 5, 0, 0, 0, -1};
        for (int what = 0; what < bare.length; what++) {
            House.due("look(0, " + what + ") of a bare one", house.look(0, what), bare[what]);
        }
        House.load(house, 0, "thread{lock m0;lock m1;if r1==0{r3=1;}}thread{}thread{}thread{done;}");
        int[] other = {4, 3, 0, 2, 2, 5, 3};
        for (int what = 0; what < other.length; what++) {
            House.due("look(0, " + what + ") of another one", house.look(0, what), other[what]);
        }
    }

    private static void kind() {
        LitmusHouse house = House.fresh(FULL);
        int[] want = {-1, -1, 1, 0, 0, 2};
        for (int c = 0; c < 6; c++) {
            House.due("kind(0, " + c + ")", house.kind(0, c), want[c]);
        }
        for (int c : new int[] {-1, 6, 7, 8, Integer.MIN_VALUE, Integer.MAX_VALUE}) {
            House.due("kind(0, " + c + ")", house.kind(0, c), -1);
        }
        places("kind", p -> house.kind(p, 0));
    }

    private static void action() {
        LitmusHouse house = House.fresh(FULL);
        int[][] want = {{0, 2, 5, 4}, {0, 3, 1, -1}, {0, 4, 1, -1}, {0, 1, 3, -1},
            {1, 1, 5, -1}, {1, 5, -1, -1}, {1, 1, 4, -1}, {1, 0, 2, 2}};
        for (int i = 0; i < 8; i++) {
            for (int what = 0; what < 4; what++) {
                House.due("action(0, " + i + ", " + what + ")", house.action(0, i, what), want[i][what]);
            }
            House.due("action(0, i, 4)", house.action(0, i, 4), -1);
            House.due("action(0, i, -1)", house.action(0, i, -1), -1);
        }
        for (int i : new int[] {-1, 8, Integer.MIN_VALUE, Integer.MAX_VALUE}) {
            House.due("action(0, " + i + ", 0)", house.action(0, i, 0), -1);
        }
        House.load(house, 0, "thread{lock m0;}");
        House.due("action(0, 1, 0) of one with one", house.action(0, 1, 0), -1);
        places("action", p -> house.action(p, 0, 0));
    }

    private static void print() {
        LitmusHouse house = House.fresh(FULL);
        String want = "plain x y;\nvolatile w;\nfinal z;\nthread {\nr4 = r0.z;\nif r0 == 3 {\nlock m1;\nunlock m1;\n"
            + "} else {\nif r4 == 0 {\n}\n}\nx = r0 + 9;\n}\nthread {\nz = 2;\ndone;\ny = 1;\nr2 = w;\n}\n";
        House.due("print(0)", House.printed(house, 0), want);
        House.due("print(0) counts", house.print(0), want.length());
        House.load(house, 0, "thread{}");
        House.due("an empty thread", House.printed(house, 0), "thread {\n}\n");
        House.load(house, 0, "volatile z u;volatile w;thread{r1=r2;r1=0;w=r1;if r1==0{}else{}}");
        House.due("an empty else stays", House.printed(house, 0),
            "volatile u w z;\nthread {\nr1 = r2;\nr1 = 0;\nw = r1;\nif r1 == 0 {\n} else {\n}\n}\n");
        places("print", p -> house.print(p));
        String longest = "plain u;volatile v;final w x y;" + "thread{".concat("if r0==0{}else{}".repeat(20)) + "}thread{}thread{}thread{}";
        LitmusHouse other = House.fresh(longest);
        House.due("the longest", other.print(0), 34 + 44 + 20 * 24);
    }

    private static void out() {
        LitmusHouse house = House.fresh("thread{}");
        House.due("out ahead of print", house.out(0), -1);
        house.print(0);
        House.due("out(0)", house.out(0), (int) 't');
        House.due("out(9)", house.out(9), (int) '}');
        House.due("out(10)", house.out(10), 10);
        for (int i : new int[] {-1, 11, 1000, Integer.MIN_VALUE, Integer.MAX_VALUE}) {
            House.due("out(" + i + ")", house.out(i), -1);
        }
        House.due("a print that throws", House.thrown(() -> house.print(5)), House.NO_SUCH_ELEMENT);
        House.due("out stays", house.out(10), 10);
    }

    private static void take() {
        LitmusHouse house = House.fresh(FULL);
        House.feed(house, "what was there");
        int size = house.print(0);
        House.due("take()", house.take(), size);
        House.due("the tape has as many", house.end(size), true);
        House.due("and no more", house.end(size + 1), false);
        House.due("load(1)", house.load(1), 8);
        House.due("it prints the same", House.printed(house, 1), House.printed(house, 0));
        House.due("they are alike", house.same(0, 1), true);
        House.due("out stays behind take", house.take(), size);
        LitmusHouse other = new LitmusHouse();
        House.feed(other, "thread{}");
        House.due("take() of nothing", other.take(), 0);
        House.due("the tape is empty", other.end(1), false);
    }
}
