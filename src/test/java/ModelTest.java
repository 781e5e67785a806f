import java.util.ArrayList;
import java.util.Arrays;
import java.util.List;
import java.util.Random;
import java.util.Set;

/** Holds the class against the slow model, on random programs. */
public final class ModelTest {
    private static final int RUNS = 6000;
    private static int skipped = 0;

    public static void main(String[] args) {
        int programs = args.length > 0 ? Integer.parseInt(args[0]) : 1500;
        long seed = args.length > 1 ? Long.parseLong(args[1]) : 1;
        for (int i = 0; i < programs; i++) {
            texts(new Maker(seed * 1000003 + i), i);
        }
        for (int i = 0; i < programs; i++) {
            Maker maker = new Maker(seed * 7919 + i);
            boolean publishes = i % 5 == 0;
            String text = publishes ? maker.publishing(1 + i % 3)
                : i % 5 < 3 ? maker.program(1 + i % 4, 2 + i / 4 % 7) : maker.crowded(2 + i % 2);
            try {
                runs(text, new Random(i));
            } catch (Model.TooLong e) {
                skipped++;
            }
        }
        for (int i = 0; i < programs; i++) {
            likeness(new Maker(seed * 31337 + i), new Random(i));
        }
        System.out.println("too long for the model: " + skipped);
        House.close("model");
    }

    private static void texts(Maker maker, int i) {
        String text = i % 5 == 0 ? maker.publishing(1 + i % 3) : maker.program(1 + i % 4, 1 + i % 10);
        if (i % 4 != 0) {
            text = maker.spoilt(text);
        }
        LitmusHouse house = new LitmusHouse();
        int got = House.load(house, 3, text);
        try {
            Model model = new Model(text);
            House.due("load of " + text, got, model.actions.size());
            House.due("fault of " + text, house.fault(0) + " " + house.fault(1), "0 -1");
            if (got >= 0) {
                parts(text, house, model);
            }
        } catch (Model.Fault fault) {
            House.due("load of " + text, got, -1);
            House.due("fault of " + text, house.fault(0) + " at " + house.fault(1), fault.kind + " at " + fault.place);
        }
    }

    private static void parts(String text, LitmusHouse house, Model model) {
        int[] look = {model.threads.size(), model.actions.size(), model.kinds.size(), model.locals(),
            model.monitors(), model.statements, model.maker, -1};
        for (int what = 0; what < look.length; what++) {
            House.due("look(3, " + what + ") of " + text, house.look(3, what), look[what]);
        }
        List<String> ops = List.of("read", "write", "through", "lock", "unlock", "done");
        for (Model.Statement s : model.actions) {
            int thing = s.monitor >= 0 ? s.monitor : s.cell == '?' ? -1 : s.cell - 'u';
            String got = house.action(3, s.number, 0) + " " + house.action(3, s.number, 1) + " "
                + house.action(3, s.number, 2) + " " + house.action(3, s.number, 3);
            String want = s.thread + " " + ops.indexOf(s.kind) + " " + thing + " " + s.target;
            House.due("action " + s.number + " of " + text, got, want);
        }
        for (int c = 0; c < 6; c++) {
            int want = List.of("plain", "volatile", "final").indexOf(String.valueOf(model.kinds.get((char) ('u' + c))));
            House.due("kind(3, " + c + ") of " + text, house.kind(3, c), want);
        }
        House.due("print of " + text, House.printed(house, 3), model.printed());
    }

    private static void runs(String text, Random random) {
        Model model = new Model(text);
        LitmusHouse house = House.fresh(text);
        Set<Character> volatiles = model.cellsOf("volatile");
        for (int order = 0; order < 3; order++) {
            String want = String.join(" ", model.outcomes(order, volatiles, RUNS));
            House.due("outcomes " + order + " of " + text, House.outcomes(house, 0, order), want);
        }
        StringBuilder races = new StringBuilder();
        for (int i = 0; i < house.races(0); i++) {
            races.append(i > 0 ? " " : "").append(house.race(0, i, 0)).append('-').append(house.race(0, i, 1));
        }
        House.due("races of " + text, races.toString(), model.races(RUNS));
        int[][] before = model.before(RUNS);
        for (int a = 0; a < 8; a++) {
            for (int b = 0; b < 8; b++) {
                House.due("before(" + a + ", " + b + ") of " + text, house.before(0, a, b), before[a][b]);
            }
        }
        for (int n = 0; n < 4; n++) {
            witness(text, model, house, random);
        }
        for (int order = 1; order < 3; order++) {
            House.due("fence " + order + " of " + text, house.fence(0, order), model.fence(order, RUNS));
        }
    }

    private static void witness(String text, Model model, LitmusHouse house, Random random) {
        int[] wish = new int[5];
        Arrays.fill(wish, -1);
        int count = house.outcomes(0, 0);
        int some = random.nextInt(count);
        for (int l = 0; l < 5; l++) {
            if (random.nextInt(3) == 0) {
                wish[l] = random.nextInt(8) == 0 ? random.nextInt(10) : house.value(0, 0, some, l);
            }
            house.wish(l, wish[l]);
        }
        List<Integer> want = model.witness(wish, RUNS);
        House.due("witness of " + text, house.witness(0), want == null ? -1 : want.size());
        if (want != null) {
            List<Integer> got = new ArrayList<>();
            for (int i = 0; i < want.size(); i++) {
                got.add(house.step(i));
            }
            House.due("steps of " + text + " wishing " + Arrays.toString(wish), got, want);
            House.due("step behind the end", house.step(want.size()), -1);
        }
        for (int order = 0; order < 3; order++) {
            int meeting = 0;
            for (int i = 0; i < house.outcomes(0, order); i++) {
                boolean meets = true;
                for (int l = 0; l < 5; l++) {
                    meets &= wish[l] < 0 || wish[l] == house.value(0, order, i, l);
                }
                meeting += meets ? 1 : 0;
            }
            House.due("allowed " + order + " of " + text, house.allowed(0, order), meeting);
        }
    }

    private static void likeness(Maker maker, Random random) {
        String text = maker.program(1 + random.nextInt(4), 1 + random.nextInt(5));
        String other = random.nextInt(4) == 0 ? maker.program(1 + random.nextInt(4), 1 + random.nextInt(5))
            : renamed(text, random);
        if (random.nextInt(3) == 0) {
            int at = random.nextInt(other.length());
            String signs = "uvwxyz0123401";
            other = other.substring(0, at) + signs.charAt(random.nextInt(signs.length())) + other.substring(at + 1);
        }
        String want;
        try {
            want = "" + new Model(text).likeness().equals(new Model(other).likeness());
        } catch (Model.Fault fault) {
            return;
        }
        LitmusHouse house = House.fresh(text, other);
        House.due("same of " + text + " and " + other, "" + house.same(0, 1), want);
        House.due("same back of " + text + " and " + other, "" + house.same(1, 0), want);
    }

    private static String renamed(String text, Random random) {
        List<Character> cells = new ArrayList<>(List.of('u', 'v', 'w', 'x', 'y', 'z'));
        List<Character> locals = new ArrayList<>(List.of('0', '1', '2', '3', '4'));
        java.util.Collections.shuffle(cells, random);
        java.util.Collections.shuffle(locals, random);
        int flip = random.nextInt(2);
        StringBuilder out = new StringBuilder();
        for (String part : text.split("(?<=[^a-z0-9])|(?=[^a-z0-9])")) {
            if (part.matches("[u-z]")) {
                out.append(cells.get(part.charAt(0) - 'u'));
            } else if (part.matches("r[0-4]")) {
                out.append('r').append(locals.get(part.charAt(1) - '0'));
            } else if (part.matches("m[01]")) {
                out.append('m').append(part.charAt(1) - '0' ^ flip);
            } else {
                out.append(part);
            }
        }
        List<String> threads = new ArrayList<>(List.of(out.toString().split("(?=thread)")));
        String declarations = threads.remove(0);
        java.util.Collections.shuffle(threads, random);
        return declarations + String.join("", threads);
    }
}
