/** Promises 1 to 6, sentence by sentence: a new object, feed, end, load, fault, drop. */
final class TapeEdges {
    private static final int BLANKS = 0x20202020;
    private static final String TWENTY = "plain x;thread{x=1;}";

    private TapeEdges() {
    }

    static void all() {
        noPrograms();
        emptyTape();
        noWish();
        feedHighestFirst();
        feedBeyond();
        endAll();
        endTooMany();
        endBelow();
        loadEmpties();
        loadCounts();
        loadFault();
        loadNoPlace();
        faultOfLatest();
        faultOther();
        faultAhead();
        dropGone();
        dropNone();
        dropNoPlace();
    }

    private static boolean feedBlanks(LitmusHouse house, int times) {
        boolean all = true;
        for (int i = 0; i < times; i++) {
            all &= house.feed(BLANKS, BLANKS, BLANKS, BLANKS, BLANKS) > 0;
        }
        return all;
    }

    /** How many bytes the TAPE has; it stays. */
    static int tapeSize(LitmusHouse house) {
        int fed = house.feed(BLANKS, BLANKS, BLANKS, BLANKS, BLANKS);
        if (fed >= 0) {
            house.end(fed - 20);
            return fed - 20;
        }
        int size = 1000;
        while (!house.end(size)) {
            size--;
        }
        return size;
    }

    private static void noPrograms() {
        Edge.about("Promise 1: A new object", "No programs,");
        LitmusHouse house = new LitmusHouse();
        for (int p = 0; p < 8; p++) {
            int place = p;
            Edge.thrown("look(" + p + ", 0)", () -> house.look(place, 0), House.NO_SUCH_ELEMENT);
            Edge.due("drop(" + p + ")", house.drop(p), false);
        }
        Edge.due("NONE", LitmusHouse.NONE, -1);
    }

    private static void emptyTape() {
        Edge.about("Promise 1: A new object", "an empty tape,");
        LitmusHouse house = new LitmusHouse();
        Edge.due("end(1)", house.end(1), false);
        Edge.due("end(0)", house.end(0), true);
        Edge.due("load(0)", house.load(0), -1);
        Edge.due("its FAULT", house.fault(0) + " at " + house.fault(1), "7 at 0");
        Edge.due("the first feed", new LitmusHouse().feed(0, 0, 0, 0, 0), 20);
    }

    private static void noWish() {
        Edge.about("Promise 1: A new object", "no WISH.");
        String text = "plain x;thread{r0=x;r1=1;r2=2;r3=x;}thread{x=9;r4=4;}";
        LitmusHouse house = House.fresh(text);
        for (int order = 0; order < 3; order++) {
            Edge.due("allowed(0, " + order + ") is all", house.allowed(0, order), house.outcomes(0, order));
        }
        LitmusHouse other = House.fresh(text);
        other.wish(1, 7);
        Edge.due("another object's WISH is its own", other.allowed(0, 0) + " " + house.allowed(0, 0), "0 3");
    }

    private static void feedHighestFirst() {
        Edge.about("Promise 2: feed", "Twenty bytes come behind the TAPE, of each number the highest first: how many it has.");
        // One byte that is none, at each of the twenty places in turn.
        for (int at = 0; at < 20; at++) {
            int[] number = {BLANKS, BLANKS, BLANKS, BLANKS, BLANKS};
            number[at / 4] |= 255 << (24 - at % 4 * 8);
            LitmusHouse house = new LitmusHouse();
            House.feed(house, "thread{}");
            Edge.due("feed behind eight bytes", house.feed(number[0], number[1], number[2], number[3], number[4]), 28);
            house.load(0);
            Edge.due("byte " + at + " of it is 255", house.fault(0) + " at " + house.fault(1), "1 at " + (8 + at));
        }
        LitmusHouse house = new LitmusHouse();
        for (int i = 1; i <= 50; i++) {
            Edge.due("feed " + i, house.feed(Integer.MIN_VALUE, Integer.MAX_VALUE, -1, 0, 1), 20 * i);
        }
        LitmusHouse small = new LitmusHouse();
        small.feed(0x706c6169, 0x6e20783b, 0x74687265, 0x61647b78, 0x3d313b7d);
        Edge.due("load of " + TWENTY, small.load(0), 1);
    }

    private static void feedBeyond() {
        Edge.about("Promise 2: feed", "NONE, and nothing comes, if there would be more than 1000.");
        for (int size = 975; size <= 1000; size++) {
            LitmusHouse house = new LitmusHouse();
            feedBlanks(house, 50);
            house.end(size);
            int want = size + 20 <= 1000 ? size + 20 : -1;
            Edge.due("feed to " + (size + 20), house.feed(-1, -1, -1, -1, -1), want);
            Edge.due("the TAPE has", tapeSize(house), want < 0 ? size : want);
            house.load(0);
            Edge.due("what came", house.fault(0) + " at " + house.fault(1), want < 0 ? "7 at " + size : "1 at " + size);
        }
    }

    private static void endAll() {
        Edge.about("Promise 3: end", "The TAPE has its first n bytes alone: true;");
        for (int n = 0; n <= 20; n++) {
            LitmusHouse house = new LitmusHouse();
            House.feed(house, TWENTY);
            Edge.due("end(" + n + ")", house.end(n), true);
            Edge.due("the TAPE has", tapeSize(house), n);
        }
        LitmusHouse house = new LitmusHouse();
        House.feed(house, TWENTY + "!");
        house.end(20);
        Edge.due("the first ones stay", house.load(0), 1);
        LitmusHouse again = new LitmusHouse();
        House.feed(again, "thread{}!");
        again.end(8);
        feedBlanks(again, 1);
        Edge.due("what was cut is gone for good", again.load(0), 0);
        LitmusHouse full = new LitmusHouse();
        feedBlanks(full, 50);
        Edge.due("end(1000)", full.end(1000), true);
    }

    private static void endTooMany() {
        Edge.about("Promise 3: end", "false, changing nothing, if it has not so many,");
        for (int size : new int[] {0, 1, 19, 20}) {
            LitmusHouse house = new LitmusHouse();
            House.feed(house, TWENTY);
            house.end(size);
            for (int n : new int[] {size + 1, size + 20, 1001, Integer.MAX_VALUE}) {
                Edge.due("end(" + n + ") of " + size, house.end(n), false);
            }
            Edge.due("the TAPE has", tapeSize(house), size);
        }
        LitmusHouse full = new LitmusHouse();
        feedBlanks(full, 50);
        Edge.due("end(1001) of 1000", full.end(1001), false);
        Edge.due("the TAPE has", tapeSize(full), 1000);
    }

    private static void endBelow() {
        Edge.about("Promise 3: end", "or n is below 0.");
        LitmusHouse house = new LitmusHouse();
        Edge.due("end(-1) of an empty one", house.end(-1), false);
        House.feed(house, TWENTY);
        for (int n : new int[] {-1, -20, Integer.MIN_VALUE}) {
            Edge.due("end(" + n + ")", house.end(n), false);
        }
        Edge.due("load(0)", house.load(0), 1);
    }

    private static void loadEmpties() {
        Edge.about("Promise 4: load", "The TAPE, empty then in any case,");
        for (String text : new String[] {TWENTY, "thread{", "", "!"}) {
            LitmusHouse house = new LitmusHouse();
            House.load(house, 0, text);
            Edge.due("the TAPE behind a load of " + text, tapeSize(house), 0);
            Edge.due("the next feed", house.feed(BLANKS, BLANKS, BLANKS, BLANKS, BLANKS), 20);
        }
    }

    private static void loadCounts() {
        Edge.about("Promise 4: load", "is read as a program into a PLACE: how many ACTIONS;");
        for (int n = 0; n <= 8; n++) {
            LitmusHouse house = new LitmusHouse();
            Edge.due("load of " + n, House.load(house, 7, "plain x;thread{r0=1;" + "x=r0;".repeat(n) + "}"), n);
            Edge.due("it is there", house.look(7, 1), n);
        }
        LitmusHouse house = House.fresh("plain x;thread{x=1;}");
        Edge.due("load over another one", House.load(house, 0, "plain y;thread{}thread{}"), 0);
        Edge.due("nothing of that is left", house.look(0, 0) + " " + house.kind(0, 3) + " " + house.kind(0, 4), "2 -1 0");
    }

    private static void loadFault() {
        Edge.about("Promise 4: load", "NONE: a FAULT (the PLACE stays).");
        LitmusHouse house = House.fresh(TWENTY);
        for (String text : new String[] {"", "plain x", "plain x x;", "thread{r0=1;}thread{r0=1;}", "thread{}thread{}thread{}thread{}thread{}",
            "thread{unlock m0;}", "thread{done;done;}", "plain y;"}) {
            Edge.due("load of " + text, House.load(house, 0, text), -1);
            Edge.due("the program that was there", House.printed(house, 0), "plain x;\nthread {\nx = 1;\n}\n");
            Edge.due("load of it into an empty PLACE", House.load(house, 1, text), -1);
            Edge.thrown("the PLACE is empty still", () -> house.look(1, 0), House.NO_SUCH_ELEMENT);
        }
    }

    private static void loadNoPlace() {
        Edge.about("Promise 4: load", "IndexOutOfBoundsException: no such PLACE (the TAPE stays).");
        for (int p : Edge.NO_PLACES) {
            LitmusHouse house = new LitmusHouse();
            House.feed(house, TWENTY);
            Edge.thrown("load(" + p + ")", () -> house.load(p), House.OUT_OF_BOUNDS);
            Edge.due("the TAPE has", tapeSize(house), 20);
            Edge.due("load(7) of it", house.load(7), 1);
        }
    }

    private static void faultOfLatest() {
        Edge.about("Promise 5: fault", "Of the latest load(): what 0 the FAULT (0 without one), 1 its place (NONE).");
        LitmusHouse house = new LitmusHouse();
        House.load(house, 0, "thread{x=1;}");
        Edge.due("a FAULT", house.fault(0) + " at " + house.fault(1), "2 at 7");
        Edge.due("asked once more", house.fault(0) + " at " + house.fault(1), "2 at 7");
        House.load(house, 0, "!");
        Edge.due("a later one", house.fault(0) + " at " + house.fault(1), "1 at 0");
        House.load(house, 1, "thread{}");
        Edge.due("without one", house.fault(0) + " at " + house.fault(1), "0 at -1");
        House.load(house, 0, "plain x;");
        Edge.thrown("load(8)", () -> house.load(8), House.OUT_OF_BOUNDS);
        Edge.due("a refused load() is none", house.fault(0) + " at " + house.fault(1), "7 at 8");
    }

    private static void faultOther() {
        Edge.about("Promise 5: fault", "NONE for another what;");
        LitmusHouse house = new LitmusHouse();
        for (int round = 0; round < 2; round++) {
            for (int what : new int[] {-1, 2, 3, Integer.MIN_VALUE, Integer.MAX_VALUE}) {
                Edge.due("fault(" + what + ")", house.fault(what), -1);
            }
            House.load(house, 0, "thread{x=1;}");
        }
    }

    private static void faultAhead() {
        Edge.about("Promise 5: fault", "0, NONE ahead of any.");
        LitmusHouse house = new LitmusHouse();
        Edge.due("fault(0)", house.fault(0), 0);
        Edge.due("fault(1)", house.fault(1), -1);
        House.feed(house, "!");
        Edge.due("a text alone is no load()", house.fault(0) + " at " + house.fault(1), "0 at -1");
    }

    private static void dropGone() {
        Edge.about("Promise 6: drop", "A PLACE's program is gone: true;");
        LitmusHouse house = House.fresh(TWENTY, TWENTY, TWENTY, TWENTY, TWENTY, TWENTY, TWENTY, TWENTY);
        for (int p = 0; p < 8; p++) {
            int place = p;
            Edge.due("drop(" + p + ")", house.drop(p), true);
            Edge.thrown("look(" + p + ", 0)", () -> house.look(place, 0), House.NO_SUCH_ELEMENT);
            if (p < 7) {
                Edge.due("the next one stays", house.look(p + 1, 1), 1);
            }
        }
    }

    private static void dropNone() {
        Edge.about("Promise 6: drop", "false if there was none.");
        LitmusHouse house = House.fresh(TWENTY);
        Edge.due("drop(7) of none", house.drop(7), false);
        house.drop(0);
        Edge.due("drop(0) once more", house.drop(0), false);
        House.load(house, 0, "!");
        Edge.due("drop(0) behind a FAULT", house.drop(0), false);
    }

    private static void dropNoPlace() {
        Edge.about("Promise 6: drop", "IndexOutOfBoundsException: no such PLACE.");
        LitmusHouse house = House.fresh(TWENTY);
        for (int p : Edge.NO_PLACES) {
            Edge.thrown("drop(" + p + ")", () -> house.drop(p) ? 1 : 0, House.OUT_OF_BOUNDS);
        }
        Edge.due("the program stays", house.look(0, 1), 1);
    }
}
