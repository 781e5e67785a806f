import java.util.function.ToIntFunction;

/** 'A call that is refused changes nothing', for each call that can be; and the 512 calls of one object. */
final class RefusedEdges {
    private static final String TEXT = "plain x y;thread{x=1;r0=y;}thread{y=1;r1=x;}";

    private RefusedEdges() {
    }

    static void all() {
        Edge.about("III", "A call that is refused changes nothing.");
        tape();
        places();
        numbers();
        wishes();
        programs();
        Edge.about("What it is", "An object is used for at most 512 calls after it has been made;");
        calls();
    }

    /** An object with something of everything: its TAPE so full that nothing more can be fed. */
    private static LitmusHouse prepared() {
        LitmusHouse house = House.fresh(TEXT, "final z;thread{z=1;done;}");
        House.load(house, 2, "thread{x=1;}");
        house.print(1);
        house.witness(0);
        house.wish(0, 1);
        House.feed(house, "plain w;thread{w=7;}" + " ".repeat(961));
        return house;
    }

    /** All that an object can tell; the TAPE last, as that is lost by it. */
    private static String told(LitmusHouse house) {
        StringBuilder text = new StringBuilder();
        text.append(house.fault(0)).append(' ').append(house.fault(1)).append(' ');
        for (int i = 0; i < 60; i++) {
            text.append(house.out(i)).append(' ');
        }
        for (int i = 0; i < 6; i++) {
            text.append(house.step(i)).append(' ');
        }
        text.append(house.allowed(0, 0)).append(house.allowed(0, 1)).append(house.allowed(0, 2));
        for (int p = 0; p < 8; p++) {
            int place = p;
            text.append(' ').append(House.thrown(() -> house.print(place)));
        }
        for (int c = 0; c < 6; c++) {
            text.append(' ').append(house.kind(0, c)).append(house.kind(1, c));
        }
        text.append(" tape ").append(TapeEdges.tapeSize(house)).append(' ').append(house.load(7)).append(house.fault(1));
        return text.append(House.printed(house, 7)).toString();
    }

    private static void refused(String name, int want, ToIntFunction<LitmusHouse> call) {
        LitmusHouse house = prepared();
        Edge.thrown(name, () -> call.applyAsInt(house), want);
        Edge.due("all there is to tell, behind " + name, told(house), told(prepared()));
    }

    private static void tape() {
        refused("feed", -1, h -> h.feed(-1, -1, -1, -1, -1));
        refused("end(-1)", 0, h -> h.end(-1) ? 1 : 0);
        refused("end(982)", 0, h -> h.end(982) ? 1 : 0);
        refused("load(-1)", House.OUT_OF_BOUNDS, h -> h.load(-1));
        refused("load(8)", House.OUT_OF_BOUNDS, h -> h.load(8));
        refused("fault(2)", -1, h -> h.fault(2));
        refused("out(-1)", -1, h -> h.out(-1));
        refused("step(-1)", -1, h -> h.step(-1));
    }

    private static void places() {
        for (int p : new int[] {-1, 8}) {
            refused("drop(" + p + ")", House.OUT_OF_BOUNDS, h -> h.drop(p) ? 1 : 0);
        }
        refused("drop(2)", 0, h -> h.drop(2) ? 1 : 0);
        for (int p : new int[] {-1, 2, 8}) {
            int want = p == 2 ? House.NO_SUCH_ELEMENT : House.OUT_OF_BOUNDS;
            refused("look(" + p + ", 0)", want, h -> h.look(p, 0));
            refused("kind(" + p + ", 0)", want, h -> h.kind(p, 0));
            refused("action(" + p + ", 0, 0)", want, h -> h.action(p, 0, 0));
            refused("print(" + p + ")", want, h -> h.print(p));
            refused("outcomes(" + p + ", 0)", want, h -> h.outcomes(p, 0));
            refused("value(" + p + ", 0, 0, 0)", want, h -> h.value(p, 0, 0, 0));
            refused("stuck(" + p + ", 0, 0)", want, h -> h.stuck(p, 0, 0));
            refused("allowed(" + p + ", 0)", want, h -> h.allowed(p, 0));
            refused("witness(" + p + ")", want, h -> h.witness(p));
            refused("races(" + p + ")", want, h -> h.races(p));
            refused("race(" + p + ", 0, 0)", want, h -> h.race(p, 0, 0));
            refused("before(" + p + ", 0, 1)", want, h -> h.before(p, 0, 1));
            refused("fence(" + p + ", 1)", want, h -> h.fence(p, 1));
            refused("make(" + p + ", 0, 0)", want, h -> h.make(p, 0, 0));
            refused("same(" + p + ", 0)", want, h -> h.same(p, 0) ? 1 : 0);
            refused("same(0, " + p + ")", want, h -> h.same(0, p) ? 1 : 0);
        }
    }

    private static void numbers() {
        refused("look(0, 7)", -1, h -> h.look(0, 7));
        refused("kind(0, 6)", -1, h -> h.kind(0, 6));
        refused("action(0, 4, 0)", -1, h -> h.action(0, 4, 0));
        refused("outcomes(0, 3)", -1, h -> h.outcomes(0, 3));
        refused("value(0, 0, 3, 0)", -1, h -> h.value(0, 0, 3, 0));
        refused("stuck(0, 0, 3)", -1, h -> h.stuck(0, 0, 3));
        refused("allowed(0, 3)", -1, h -> h.allowed(0, 3));
        refused("race(0, 2, 0)", -1, h -> h.race(0, 2, 0));
        refused("before(0, 0, 4)", -1, h -> h.before(0, 0, 4));
        refused("fence(0, 0)", -1, h -> h.fence(0, 0));
        refused("fence(1, 1)", -1, h -> h.fence(1, 1));
    }

    private static void wishes() {
        refused("wish(-1, 0)", 0, h -> h.wish(-1, 0) ? 1 : 0);
        refused("wish(5, 0)", 0, h -> h.wish(5, 0) ? 1 : 0);
        refused("wish(0, -2)", 0, h -> h.wish(0, -2) ? 1 : 0);
        refused("wish(0, 10)", 0, h -> h.wish(0, 10) ? 1 : 0);
    }

    private static void programs() {
        refused("make(0, 1, 1)", -1, h -> h.make(0, 1, 1));
        refused("make(0, 25, 0)", -1, h -> h.make(0, 25, 0));
        refused("make(0, -1, 3)", -1, h -> h.make(0, -1, 3));
        refused("make(1, 32, 1)", -1, h -> h.make(1, 32, 1));
        refused("make(0, 8, 8)", House.OUT_OF_BOUNDS, h -> h.make(0, 8, 8));
        refused("make(0, 8, -1)", House.OUT_OF_BOUNDS, h -> h.make(0, 8, -1));
        // Refused for want of a run: r0 and r1 can't both be 0 there, r4 can't be 1.
        LitmusHouse house = prepared();
        LitmusHouse other = prepared();
        house.wish(4, 1);
        other.wish(4, 1);
        Edge.due("witness(0) of none", house.witness(0), -1);
        Edge.due("all there is to tell, behind it", told(house), told(other));
    }

    private static void calls() {
        LitmusHouse house = new LitmusHouse();
        int made = 0;
        for (int round = 0; made <= 506; round++) {
            int p = round % 8;
            Edge.due("call " + made + ": feed", house.feed(0x74687265, 0x61647b72, 0x303d317d, 0x20202020, 0x20202020), 20);
            Edge.due("its load has a FAULT", house.load(p), -1);
            Edge.due("feed", house.feed(0x74687265, 0x61647b72, 0x303d313b, 0x7d202020, 0x20202020), 20);
            Edge.due("its load has none", house.load(p), 0);
            Edge.due("outcomes", house.outcomes(p, round % 3), 1);
            Edge.due("value", house.value(p, round % 3, 0, 0), 1);
            made += 6;
        }
        Edge.due("calls made", made, 510);
    }
}
