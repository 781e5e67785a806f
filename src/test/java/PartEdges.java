import java.util.function.IntUnaryOperator;

/** Promises 7 to 12, sentence by sentence: look, kind, action, print, out, take. */
final class PartEdges {
    private static final String FULL = "final z;plain y x;volatile w;thread{r4=r0.z;if r0==3{lock m1;unlock m1;}else{"
        + "if r4==0{}}x=r0+9;}thread{z=2;done;y=1;r2=w;}";

    private PartEdges() {
    }

    static void all() {
        lookEach();
        lookOther();
        noSuchPlace();
        noProgram();
        kindOf();
        kindNone();
        actionThreads();
        actionKinds();
        actionObjects();
        actionLocals();
        actionNone();
        printCounts();
        printDeclarations();
        printThreads();
        printGaps();
        printLines();
        printNothingElse();
        outBytes();
        outNone();
        take();
    }

    private static void look(String text, int... want) {
        LitmusHouse house = House.fresh(text);
        for (int what = 0; what < want.length; what++) {
            Edge.due("look(0, " + what + ") of " + text, house.look(0, what), want[what]);
        }
    }

    private static void lookEach() {
        Edge.about("Promise 7: look", "What 0 threads, 1 ACTIONS, 2 CELLS that are declared, 3 LOCALS that stand in it, 4 MONITORS, "
            + "5 STATEMENTS, 6 the MAKER (NONE).");
        look("thread{}", 1, 0, 0, 0, 0, 0, -1);
        look("plain u v w x y;thread{}thread{}thread{}thread{}", 4, 0, 5, 0, 0, 0, -1);
        look("plain u;volatile v w;final x y;thread{r0=r1;}thread{if r2==0{r3=r4;}}", 2, 0, 5, 5, 0, 3, -1);
        look("thread{lock m0;}thread{lock m1;}", 2, 2, 0, 0, 2, 2, -1);
        look("thread{lock m1;unlock m1;}", 1, 2, 0, 0, 1, 2, -1);
        look("thread{r4=1;r4=2;}", 1, 0, 0, 1, 0, 2, -1);
        look("thread{" + "if r0==0{}else{}".repeat(20) + "}thread{}", 2, 0, 0, 1, 0, 20, -1);
        look("plain x;thread{x=1;x=2;x=3;x=4;}thread{x=5;x=6;x=7;}thread{}thread{done;}", 4, 8, 1, 0, 0, 8, 3);
        look("final z;thread{z=1;}thread{r0=z;}", 2, 2, 1, 1, 0, 2, 0);
    }

    private static void lookOther() {
        Edge.about("Promise 7: look", "NONE for another what.");
        LitmusHouse house = House.fresh(FULL);
        for (int what : new int[] {-1, 7, 8, Integer.MIN_VALUE, Integer.MAX_VALUE}) {
            Edge.due("look(0, " + what + ")", house.look(0, what), -1);
        }
    }

    private interface Calls {
        void take(String name, IntUnaryOperator call);
    }

    /** Each call behind drop() that has a PLACE, with good arguments and with such as are off. */
    private static void callsWithPlace(LitmusHouse house, Calls each) {
        for (int off : new int[] {0, 1, -1, 99, Integer.MIN_VALUE, Integer.MAX_VALUE}) {
            each.take("look(p, " + off + ")", p -> house.look(p, off));
            each.take("kind(p, " + off + ")", p -> house.kind(p, off));
            each.take("action(p, " + off + ", " + off + ")", p -> house.action(p, off, off));
            each.take("outcomes(p, " + off + ")", p -> house.outcomes(p, off));
            each.take("value(p, " + off + ", ..)", p -> house.value(p, off, off, off));
            each.take("stuck(p, " + off + ", ..)", p -> house.stuck(p, off, off));
            each.take("allowed(p, " + off + ")", p -> house.allowed(p, off));
            each.take("race(p, " + off + ", ..)", p -> house.race(p, off, off));
            each.take("before(p, " + off + ", 0)", p -> house.before(p, off, 0));
            each.take("fence(p, " + off + ")", p -> house.fence(p, off));
            each.take("make(p, " + off + ", 0)", p -> house.make(p, off, 0));
        }
        each.take("print(p)", p -> house.print(p));
        each.take("witness(p)", p -> house.witness(p));
        each.take("races(p)", p -> house.races(p));
        each.take("same(p, 0)", p -> house.same(p, 0) ? 1 : 0);
        each.take("same(0, p)", p -> house.same(0, p) ? 1 : 0);
        each.take("same(p, p)", p -> house.same(p, p) ? 1 : 0);
    }

    private static void noSuchPlace() {
        Edge.about("Promise 7: look", "IndexOutOfBoundsException: no such PLACE;");
        LitmusHouse house = House.fresh(FULL);
        callsWithPlace(house, (name, call) -> {
            for (int p : Edge.NO_PLACES) {
                Edge.thrown(name + " of PLACE " + p, () -> call.applyAsInt(p), House.OUT_OF_BOUNDS);
            }
        });
        Edge.thrown("make(0, 0, 8)", () -> house.make(0, 0, 8), House.OUT_OF_BOUNDS);
    }

    private static void noProgram() {
        Edge.about("Promise 7: look", "NoSuchElementException: no program there (so in all calls behind this one, too).");
        LitmusHouse house = House.fresh(FULL, FULL);
        house.drop(1);
        callsWithPlace(house, (name, call) -> {
            for (int p : new int[] {1, 2, 7}) {
                Edge.thrown(name + " of PLACE " + p, () -> call.applyAsInt(p), House.NO_SUCH_ELEMENT);
            }
        });
        Edge.thrown("make(1, 0, 1)", () -> house.make(1, 0, 1), House.NO_SUCH_ELEMENT);
        Edge.due("make() needs no program where it goes: make(0, 0, 1)", house.make(0, 0, 1), 0);
        House.load(house, 7, "thread{}");
        Edge.due("look(7, 0) when there is one", house.look(7, 0), 1);
    }

    private static void kindOf() {
        Edge.about("Promise 8: kind", "The kind of CELL c (0 u .. 5 z): 0 plain, 1 volatile, 2 final;");
        String[] kinds = {"plain", "volatile", "final"};
        for (int kind = 0; kind < 3; kind++) {
            for (int c = 0; c < 6; c++) {
                LitmusHouse house = House.fresh(kinds[kind] + " " + (char) ('u' + c) + ";thread{}");
                for (int other = 0; other < 6; other++) {
                    Edge.due("kind(0, " + other + ") with " + kinds[kind] + " " + c, house.kind(0, other), other == c ? kind : -1);
                }
            }
        }
    }

    private static void kindNone() {
        Edge.about("Promise 8: kind", "NONE if it is not declared.");
        LitmusHouse house = House.fresh("plain u v;volatile w x;final z;thread{}");
        for (int c : new int[] {4, -1, 6, 7, 8, 9, Integer.MIN_VALUE, Integer.MAX_VALUE}) {
            Edge.due("kind(0, " + c + ")", house.kind(0, c), -1);
        }
    }

    /** One answer of each ACTION in turn, and NONE behind them. */
    private static void actions(String text, int what, int... want) {
        LitmusHouse house = House.fresh(text);
        for (int i = 0; i < want.length; i++) {
            Edge.due("action(0, " + i + ", " + what + ") of " + text, house.action(0, i, what), want[i]);
        }
        Edge.due("action(0, " + want.length + ", " + what + ") of " + text, house.action(0, want.length, what), -1);
    }

    private static void actionThreads() {
        Edge.about("Promise 9: action", "Of ACTION i: what 0 its thread,");
        actions(FULL, 0, 0, 0, 0, 0, 1, 1, 1, 1);
        actions("thread{}thread{lock m0;}thread{}thread{lock m0;}", 0, 1, 3);
        actions("thread{}", 0);
    }

    private static void actionKinds() {
        Edge.about("Promise 9: action", "1: 0 a READ, 1 a WRITE, 2 a THROUGH READ, 3 lock, 4 unlock, 5 done;");
        actions(FULL, 1, 2, 3, 4, 1, 1, 5, 1, 0);
        actions("final z;thread{r0=z;r0=1;if r0==1{}r0=r0;done;}", 1, 0, 5);
    }

    private static void actionObjects() {
        Edge.about("Promise 9: action", "2 its CELL, MONITOR (NONE of done);");
        actions(FULL, 2, 5, 1, 1, 3, 5, -1, 4, 2);
        actions("plain u;thread{lock m0;u=1;}", 2, 0, 0);
    }

    private static void actionLocals() {
        Edge.about("Promise 9: action", "3 the LOCAL that it gives a value (NONE).");
        actions(FULL, 3, 4, -1, -1, -1, -1, -1, -1, 2);
        actions("plain u;thread{r0=u;u=r1;u=r2+1;}", 3, 0, -1, -1);
    }

    private static void actionNone() {
        Edge.about("Promise 9: action", "NONE for another what, or if there is none such.");
        LitmusHouse house = House.fresh(FULL, "thread{lock m0;}", "thread{r0=1;}");
        for (int what : new int[] {-1, 4, 5, Integer.MIN_VALUE, Integer.MAX_VALUE}) {
            Edge.due("action(0, 0, " + what + ")", house.action(0, 0, what), -1);
        }
        for (int what = 0; what < 4; what++) {
            for (int i : new int[] {-1, 8, 9, Integer.MIN_VALUE, Integer.MAX_VALUE}) {
                Edge.due("action(0, " + i + ", " + what + ")", house.action(0, i, what), -1);
            }
            Edge.due("action(1, 1, " + what + ")", house.action(1, 1, what), -1);
            Edge.due("action(2, 0, " + what + ")", house.action(2, 0, what), -1);
        }
    }

    private static void printed(String text, String want) {
        Edge.due("print of " + text, House.printed(House.fresh(text), 0), want);
    }

    private static void printCounts() {
        Edge.about("Promise 10: print", "The program as a text is OUT: how many bytes.");
        LitmusHouse house = House.fresh("thread{}", "plain x;thread{x=1;}");
        Edge.due("print(0)", house.print(0), 11);
        Edge.due("print(1)", house.print(1), 27);
        Edge.due("OUT has as many", house.out(26) + " " + house.out(27), "10 -1");
        Edge.due("print(0) again", house.print(0), 11);
        Edge.due("nothing of the longer one is left", house.out(10) + " " + house.out(11), "10 -1");
        String longest = "plain u;volatile v;final w x y;thread{" + "if r0==0{}else{}".repeat(20) + "}thread{}thread{}thread{}";
        Edge.due("the longest there is", House.fresh(longest).print(0), 34 + 44 + 20 * 24);
    }

    private static void printDeclarations() {
        Edge.about("Promise 10: print", "Declarations first: plain, volatile, final CELLS, each kind that there is in a line of its own, by letters;");
        String end = "thread {\n}\n";
        printed("thread{}", end);
        printed("plain z;thread{}", "plain z;\n" + end);
        printed("volatile u;thread{}", "volatile u;\n" + end);
        printed("final w;thread{}", "final w;\n" + end);
        printed("final z;volatile y;plain x;thread{}", "plain x;\nvolatile y;\nfinal z;\n" + end);
        printed("final u;plain z;final v;plain y;final w;thread{}", "plain y z;\nfinal u v w;\n" + end);
        printed("plain y;plain x w v u;thread{}", "plain u v w x y;\n" + end);
        printed("volatile z v;thread{}", "volatile v z;\n" + end);
    }

    private static void printThreads() {
        Edge.about("Promise 10: print", "then the threads.");
        printed("thread{}thread{r0=1;}thread{}thread{r1=2;}",
            "thread {\n}\nthread {\nr0 = 1;\n}\nthread {\n}\nthread {\nr1 = 2;\n}\n");
    }

    private static void printGaps() {
        Edge.about("Promise 10: print", "All TOKENS of a line have one blank between, but none ahead of ; and . and none behind . ;");
        printed("final z;plain x;thread{r0=r1.z;r0=r0+0;r0=r1;r0=9;x=3;x=r0;x=r1+9;r0=x;r0=z;lock m0;unlock m0;}",
            "plain x;\nfinal z;\nthread {\nr0 = r1.z;\nr0 = r0 + 0;\nr0 = r1;\nr0 = 9;\nx = 3;\nx = r0;\nx = r1 + 9;\nr0 = x;\nr0 = z;\n"
            + "lock m0;\nunlock m0;\n}\n");
        printed(" final\n z ;thread  {  r0 = r1  .  z ;  }", "final z;\nthread {\nr0 = r1.z;\n}\n");
    }

    private static void printLines() {
        Edge.about("Promise 10: print", "each declaration, each STATEMENT that is no if, each 'thread {' , 'if .. {' , '} else {' , '}' is a line, that ends with 10.");
        printed("thread{done;lock m1;if r0==0{}if r4==9{r0=1;}else{}if r1==1{}else{r0=2;}}",
            "thread {\ndone;\nlock m1;\nif r0 == 0 {\n}\nif r4 == 9 {\nr0 = 1;\n} else {\n}\nif r1 == 1 {\n} else {\nr0 = 2;\n}\n}\n");
        printed("thread{if r0==0{if r0==0{if r0==0{}else{}}}}",
            "thread {\nif r0 == 0 {\nif r0 == 0 {\nif r0 == 0 {\n} else {\n}\n}\n}\n}\n");
    }

    private static void printNothingElse() {
        Edge.about("Promise 10: print", "No other blanks.");
        LitmusHouse house = House.fresh(FULL);
        String text = House.printed(house, 0);
        Edge.due("two blanks", text.contains("  ") || text.contains(" \n") || text.contains("\n ") || text.contains("\n\n"), false);
        Edge.due("a blank or a line at the beginning", text.startsWith(" ") || text.startsWith("\n"), false);
    }

    private static void outBytes() {
        Edge.about("Promise 11: out", "Byte i of OUT;");
        LitmusHouse house = House.fresh("thread{}");
        house.print(0);
        String want = "thread {\n}\n";
        for (int i = 0; i < want.length(); i++) {
            Edge.due("out(" + i + ")", house.out(i), (int) want.charAt(i));
        }
    }

    private static void outNone() {
        Edge.about("Promise 11: out", "NONE if there is none.");
        LitmusHouse house = House.fresh("thread{}");
        for (int i : new int[] {0, 1, 999, -1}) {
            Edge.due("out(" + i + ") ahead of print()", house.out(i), -1);
        }
        house.print(0);
        for (int i : new int[] {-1, 11, 12, 999, 1000, 1001, Integer.MIN_VALUE, Integer.MAX_VALUE}) {
            Edge.due("out(" + i + ")", house.out(i), -1);
        }
    }

    private static void take() {
        Edge.about("Promise 12: take", "OUT becomes the TAPE (its first 1000 bytes): how many.");
        LitmusHouse house = House.fresh(FULL);
        Edge.due("take() of an empty OUT", house.take(), 0);
        House.feed(house, "what was there");
        Edge.due("take() of an empty OUT, with a TAPE", house.take(), 0);
        Edge.due("the TAPE is empty", TapeEdges.tapeSize(house), 0);
        int size = house.print(0);
        House.feed(house, "what was there " + "and is longer than the text, ".repeat(20));
        Edge.due("take()", house.take(), size);
        Edge.due("the TAPE has", TapeEdges.tapeSize(house), size);
        Edge.due("load(1) of it", house.load(1), 8);
        Edge.due("it is the same text", House.printed(house, 1), House.printed(house, 0));
        LitmusHouse fed = House.fresh("thread{}");
        fed.print(0);
        fed.take();
        Edge.due("feed comes behind it", fed.feed(-1, -1, -1, -1, -1), 31);
        fed.load(1);
        Edge.due("at the byte behind it", fed.fault(0) + " at " + fed.fault(1), "1 at 11");
    }
}
