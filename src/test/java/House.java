import java.util.NoSuchElementException;

/** What the tests share: texts put on the tape, answers compared, throws told by number. */
final class House {
    static final int OUT_OF_BOUNDS = -1001;
    static final int NO_SUCH_ELEMENT = -1002;
    private static int wrong = 0;
    private static int checked = 0;

    interface Call {
        int answer();
    }

    private House() {
    }

    static LitmusHouse fresh(String... texts) {
        LitmusHouse house = new LitmusHouse();
        for (int p = 0; p < texts.length; p++) {
            due("load of " + texts[p], load(house, p, texts[p]) >= 0, true);
        }
        return house;
    }

    static void feed(LitmusHouse house, String text) {
        int size = text.length();
        for (int i = 0; i < size; i += 20) {
            int[] number = new int[5];
            for (int k = 0; k < 20; k++) {
                int sign = i + k < size ? text.charAt(i + k) : ' ';
                number[k / 4] = number[k / 4] << 8 | sign;
            }
            house.feed(number[0], number[1], number[2], number[3], number[4]);
        }
        house.end(size);
    }

    static int load(LitmusHouse house, int p, String text) {
        feed(house, text);
        return house.load(p);
    }

    static String printed(LitmusHouse house, int p) {
        int size = house.print(p);
        StringBuilder text = new StringBuilder();
        for (int i = 0; i < size; i++) {
            text.append((char) house.out(i));
        }
        due("out behind its end", house.out(size), -1);
        return text.toString();
    }

    /** The OUTCOMES, each r0 .. r4 and the STUCK threads behind a stroke, with blanks between. */
    static String outcomes(LitmusHouse house, int p, int order) {
        StringBuilder text = new StringBuilder();
        int count = house.outcomes(p, order);
        for (int i = 0; i < count; i++) {
            if (i > 0) {
                text.append(' ');
            }
            for (int l = 0; l < 5; l++) {
                text.append(house.value(p, order, i, l));
            }
            text.append('/').append(house.stuck(p, order, i));
        }
        return text.toString();
    }

    /** The answer, or which exception the class threw; one that the machine threw is told as it is. */
    static int thrown(Call call) {
        try {
            return call.answer();
        } catch (IndexOutOfBoundsException e) {
            return e.getClass() == IndexOutOfBoundsException.class && fromHouse(e) ? OUT_OF_BOUNDS : fail(e);
        } catch (NoSuchElementException e) {
            return e.getClass() == NoSuchElementException.class && fromHouse(e) ? NO_SUCH_ELEMENT : fail(e);
        } catch (RuntimeException e) {
            return fail(e);
        }
    }

    private static boolean fromHouse(RuntimeException e) {
        return e.getStackTrace().length > 0 && e.getStackTrace()[0].getClassName().startsWith("LitmusHouse");
    }

    private static int fail(RuntimeException e) {
        e.printStackTrace(System.out);
        return Integer.MIN_VALUE;
    }

    static void due(String what, Object got, Object want) {
        checked++;
        if (!got.equals(want)) {
            wrong++;
            System.out.println(what + " answered " + got + ", due is " + want);
        }
    }

    static void close(String name) {
        System.out.println(name + ": " + checked + " answers, " + wrong + " wrong");
        if (wrong != 0) {
            System.exit(1);
        }
    }
}
