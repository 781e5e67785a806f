import java.util.ArrayList;
import java.util.Arrays;
import java.util.List;
import java.util.Random;
import java.util.Set;

/**
 * Long random runs of calls on one object, with a shadow of its state beside it: what a call
 * answers or throws, what it changes, and that a refused one changes nothing.
 */
public final class StateTest {
    private static final int[] ODD = {-1, -2, 8, 9, 64, 1000, Integer.MIN_VALUE, Integer.MAX_VALUE};
    private final Random random;
    private final Maker maker;
    private final LitmusHouse house = new LitmusHouse();
    private final StringBuilder tape = new StringBuilder();
    private final Model[] places = new Model[8];
    private final int[] wish = {-1, -1, -1, -1, -1};
    private int faultKind = 0;
    private int faultPlace = -1;
    private String out = "";
    private List<Integer> steps = new ArrayList<>();
    private String call = "";

    private StateTest(long seed) {
        random = new Random(seed);
        maker = new Maker(seed);
    }

    public static void main(String[] args) {
        int runs = args.length > 0 ? Integer.parseInt(args[0]) : 150;
        for (int run = 0; run < runs; run++) {
            StateTest test = new StateTest(run);
            for (int n = 0; n < 512; n++) {
                test.one(run);
            }
        }
        House.close("state");
    }

    private int some(int below) {
        return random.nextInt(12) == 0 ? ODD[random.nextInt(ODD.length)] : random.nextInt(below);
    }

    private void due(int run, Object got, Object want) {
        House.due("run " + run + ": " + call, got, want);
    }

    /** What the document wants thrown for a PLACE; 0: nothing. */
    private int thrownOf(int... at) {
        for (int p : at) {
            if (p < 0 || p > 7) {
                return House.OUT_OF_BOUNDS;
            }
        }
        for (int p : at) {
            if (places[p] == null) {
                return House.NO_SUCH_ELEMENT;
            }
        }
        return 0;
    }

    private void one(int run) {
        switch (random.nextInt(10)) {
            case 0:
            case 1:
                feeding(run);
                break;
            case 2:
            case 3:
                loading(run);
                break;
            case 4:
            case 5:
                looking(run);
                break;
            case 6:
                printing(run);
                break;
            case 7:
                changing(run);
                break;
            default:
                try {
                    searching(run);
                } catch (Model.TooLong e) {
                    call = "";
                }
                break;
        }
    }

    private void feeding(int run) {
        if (random.nextInt(4) == 0) {
            int n = random.nextInt(3) == 0 ? some(1001) : Math.max(0, tape.length() - random.nextInt(3));
            call = "end(" + n + ")";
            boolean fits = n >= 0 && n <= tape.length();
            due(run, house.end(n), fits);
            if (fits) {
                tape.setLength(n);
            }
            return;
        }
        int[] number = new int[5];
        StringBuilder text = new StringBuilder();
        for (int i = 0; i < 5; i++) {
            number[i] = random.nextInt(4) == 0 ? random.nextInt() : 0x20202020;
            for (int shift = 24; shift >= 0; shift -= 8) {
                text.append((char) (number[i] >>> shift & 255));
            }
        }
        call = "feed";
        boolean fits = tape.length() + 20 <= 1000;
        due(run, house.feed(number[0], number[1], number[2], number[3], number[4]), fits ? tape.length() + 20 : -1);
        if (fits) {
            tape.append(text);
        }
    }

    private void loading(int run) {
        if (random.nextInt(4) != 0) {
            String text = random.nextInt(4) == 0 ? maker.publishing(2) : maker.program(1 + random.nextInt(3), random.nextInt(8));
            text = random.nextInt(6) == 0 ? maker.spoilt(text) : text;
            house.end(0);
            House.feed(house, text);
            tape.setLength(0);
            tape.append(text);
        }
        int p = some(8);
        call = "load(" + p + ") of " + tape;
        int got = House.thrown(() -> house.load(p));
        if (p < 0 || p > 7) {
            due(run, got, House.OUT_OF_BOUNDS);
            return;
        }
        try {
            Model model = new Model(tape.toString());
            places[p] = model;
            faultKind = 0;
            faultPlace = -1;
            due(run, got, model.actions.size());
        } catch (Model.Fault fault) {
            faultKind = fault.kind;
            faultPlace = fault.place;
            due(run, got, -1);
        }
        tape.setLength(0);
        call = call + ", fault";
        due(run, house.fault(0) + " " + house.fault(1), faultKind + " " + faultPlace);
    }

    private void looking(int run) {
        int p = some(8);
        int what = some(7);
        call = "look(" + p + ", " + what + ")";
        int thrown = thrownOf(p);
        int got = House.thrown(() -> house.look(p, what));
        if (thrown != 0) {
            due(run, got, thrown);
        } else {
            Model m = places[p];
            int[] want = {m.threads.size(), m.actions.size(), m.kinds.size(), m.locals(), m.monitors(), m.statements, m.maker};
            due(run, got, what >= 0 && what < 7 ? want[what] : -1);
        }
        int c = some(6);
        call = "kind(" + p + ", " + c + ")";
        got = House.thrown(() -> house.kind(p, c));
        String kind = thrown != 0 || c < 0 || c > 5 ? "" : String.valueOf(places[p].kinds.get((char) ('u' + c)));
        due(run, got, thrown != 0 ? thrown : List.of("plain", "volatile", "final").indexOf(kind));
        int i = some(8);
        call = "action(" + p + ", " + i + ", " + what + ")";
        got = House.thrown(() -> house.action(p, i, what));
        due(run, got, thrown != 0 ? thrown : actionOf(places[p], i, what));
        call = "fault(" + what + ")";
        due(run, house.fault(what), what == 0 ? faultKind : what == 1 ? faultPlace : -1);
    }

    private static int actionOf(Model model, int i, int what) {
        if (i < 0 || i >= model.actions.size() || what < 0 || what > 3) {
            return -1;
        }
        Model.Statement s = model.actions.get(i);
        int thing = s.monitor >= 0 ? s.monitor : s.cell == '?' ? -1 : s.cell - 'u';
        int op = List.of("read", "write", "through", "lock", "unlock", "done").indexOf(s.kind);
        return new int[] {s.thread, op, thing, s.target}[what];
    }

    private void printing(int run) {
        int p = some(8);
        call = "print(" + p + ")";
        int thrown = thrownOf(p);
        int got = House.thrown(() -> house.print(p));
        if (thrown == 0) {
            out = places[p].printed();
        }
        due(run, got, thrown != 0 ? thrown : out.length());
        int i = some(Math.max(1, out.length() + 2));
        call = "out(" + i + ")";
        due(run, house.out(i), i >= 0 && i < out.length() ? (int) out.charAt(i) : -1);
        if (random.nextInt(3) == 0) {
            call = "take()";
            tape.setLength(0);
            tape.append(out);
            due(run, house.take(), out.length());
        }
    }

    private void changing(int run) {
        int p = some(8);
        if (random.nextInt(3) == 0) {
            call = "drop(" + p + ")";
            int got = House.thrown(() -> house.drop(p) ? 1 : 0);
            due(run, got, p < 0 || p > 7 ? House.OUT_OF_BOUNDS : places[p] == null ? 0 : 1);
            if (p >= 0 && p <= 7) {
                places[p] = null;
            }
            return;
        }
        int to = some(8);
        int cells = random.nextInt(3) == 0 ? some(64) : 1 << random.nextInt(6);
        call = "make(" + p + ", " + cells + ", " + to + ")";
        int got = House.thrown(() -> house.make(p, cells, to));
        int thrown = to < 0 || to > 7 ? House.OUT_OF_BOUNDS : thrownOf(p);
        if (thrown != 0) {
            due(run, got, thrown);
            return;
        }
        boolean plain = true;
        for (int c = 0; c < 32; c++) {
            plain &= (cells >>> c & 1) == 0 || "plain".equals(places[p].kinds.get((char) ('u' + c)));
        }
        due(run, got, plain ? Integer.bitCount(cells) : -1);
        if (plain) {
            Model made = new Model(places[p].printed());
            for (int c = 0; c < 6; c++) {
                if ((cells >> c & 1) != 0) {
                    made.kinds.put((char) ('u' + c), "volatile");
                }
            }
            places[to] = made;
        }
    }

    private void searching(int run) {
        int p = some(8);
        int q = some(8);
        int order = some(3);
        int thrown = thrownOf(p);
        int l = some(5);
        int v = some(10);
        boolean fits = l >= 0 && l < 5 && v >= -1 && v < 10;
        call = "wish(" + l + ", " + v + ")";
        due(run, house.wish(l, v), fits);
        if (fits) {
            wish[l] = v;
        }
        if (random.nextInt(2) == 0 && house.wish(l, -1)) {
            wish[l] = -1;
        }
        call = "same(" + p + ", " + q + ")";
        int alike = House.thrown(() -> house.same(p, q) ? 1 : 0);
        int wrong = thrownOf(p, q);
        due(run, alike, wrong != 0 ? wrong : places[p].likeness().equals(places[q].likeness()) ? 1 : 0);
        if (thrown != 0) {
            call = "searches of " + p;
            int[] got = {House.thrown(() -> house.outcomes(p, order)), House.thrown(() -> house.value(p, order, 0, 0)),
                House.thrown(() -> house.stuck(p, order, 0)), House.thrown(() -> house.allowed(p, order)),
                House.thrown(() -> house.witness(p)), House.thrown(() -> house.races(p)),
                House.thrown(() -> house.race(p, 0, 0)), House.thrown(() -> house.before(p, 0, 1)),
                House.thrown(() -> house.fence(p, order))};
            for (int one : got) {
                due(run, one, thrown);
            }
            return;
        }
        outcomes(run, p, order);
        witness(run, p);
    }

    private void outcomes(int run, int p, int order) {
        Model model = places[p];
        if (order < 0 || order > 2) {
            call = "another order: " + order;
            int[] got = {house.outcomes(p, order), house.value(p, order, 0, 0), house.stuck(p, order, 0),
                house.allowed(p, order), house.fence(p, order)};
            due(run, Arrays.toString(got), "[-1, -1, -1, -1, -1]");
            return;
        }
        Set<String> want = model.outcomes(order, model.cellsOf("volatile"), 3000);
        call = "outcomes(" + p + ", " + order + ") of " + model.printed();
        due(run, House.outcomes(house, p, order), String.join(" ", want));
        int meeting = 0;
        for (String outcome : want) {
            boolean meets = true;
            for (int l = 0; l < 5; l++) {
                meets &= wish[l] < 0 || wish[l] == outcome.charAt(l) - '0';
            }
            meeting += meets ? 1 : 0;
        }
        call = "allowed(" + p + ", " + order + ") of " + model.printed();
        due(run, house.allowed(p, order), meeting);
    }

    private void witness(int run, int p) {
        List<Integer> want = places[p].witness(wish, 3000);
        call = "witness(" + p + ") of " + places[p].printed();
        due(run, house.witness(p), want == null ? -1 : want.size());
        if (want != null) {
            steps = want;
        }
        for (int i = -1; i <= steps.size(); i++) {
            due(run, house.step(i), i >= 0 && i < steps.size() ? steps.get(i) : -1);
        }
    }
}
