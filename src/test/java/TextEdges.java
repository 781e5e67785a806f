/** The boundaries that 'I. PROGRAMS' names: TOKENS, the grammar's repeats, every FAULT. */
final class TextEdges {
    private static final String FOUR = "thread{}thread{}thread{}thread{}";
    private static final String EIGHT = "plain x;final z;thread{x=1;x=2;x=3;x=4;x=5;x=6;x=7;x=8;";
    // Twenty STATEMENTS; r0 is the first thread's, r1 the second's, where the text ends.
    private static final String TWENTY = "thread{" + "r0=1;".repeat(10) + "}thread{" + "r1=1;".repeat(8) + "if r1==1{r1=2;}";

    private TextEdges() {
    }

    static void all() {
        places();
        textLength();
        blanks();
        wordSigns();
        names();
        digits();
        signs();
        repeats();
        locals();
        maker();
        firstByPlace();
        leastAtOnePlace();
        standing();
        theEnd();
        declared();
        foreign();
        sixthCell();
        fifthThread();
        ninthAction();
        statement21();
        fourthIf();
        lockWords();
        braces();
        makersOwn();
        throughFinal();
        noThread();
    }

    private static void places() {
        Edge.about("I", "PROGRAMS lie in PLACES 0 .. 7 (at first none does).");
        LitmusHouse house = new LitmusHouse();
        for (int p = 0; p < 8; p++) {
            int place = p;
            Edge.thrown("look(" + p + ", 0) at first", () -> house.look(place, 0), House.NO_SUCH_ELEMENT);
            Edge.due("load(" + p + ")", House.load(house, p, "thread{" + "lock m0;unlock m0;".repeat(p / 2) + "}"), p / 2 * 2);
        }
        for (int p = 0; p < 8; p++) {
            Edge.due("each PLACE has its own: look(" + p + ", 1)", house.look(p, 1), p / 2 * 2);
        }
        for (int p : Edge.NO_PLACES) {
            Edge.thrown("look(" + p + ", 0)", () -> house.look(p, 0), House.OUT_OF_BOUNDS);
        }
    }

    private static void textLength() {
        Edge.about("I", "TEXTS have at most 1000 bytes;");
        String blanks = " ".repeat(1000);
        Edge.fine(blanks.substring(0, 979) + "plain x;thread{r0=x;}");
        Edge.fine("plain x;thread{r0=x;" + blanks.substring(0, 979) + "}");
        Edge.fine("plain x;thread{r0=x;}" + blanks.substring(0, 979));
        Edge.fault(1, "thread{}" + blanks.substring(0, 991) + "|!");
        Edge.fault(1, "thread{" + blanks.substring(0, 993) + "|");
        Edge.fault(1, "thread{}|" + "a".repeat(992));
        Edge.fault(1, "|" + ";".repeat(1000));
        Edge.fault(1, "thread{|" + "{".repeat(993));
        Edge.fault(7, blanks + "|");
        Edge.fault(1, blanks.substring(0, 999) + "|!");
        Edge.fault(1, blanks.substring(0, 994) + "thread|");
    }

    private static void blanks() {
        Edge.about("I", "blanks (32, 10) between any two TOKENS.");
        Edge.fine("plain x;final z;thread{r0=x;r0=r1.z;x=r0+1;lock m0;unlock m0;done;if r0==1{}else{}}");
        String open = " plain x ; final z ; thread { r0 = x ; r0 = r1 . z ; x = r0 + 1 ; lock m0 ; unlock m0 ; done ; "
            + "if r0 == 1 { } else { } } ";
        Edge.fine(open);
        Edge.fine(open.replace(' ', '\n'));
        Edge.fine(open.replace(" ", " \n\n "));
        for (char sign : new char[] {0, 9, 11, 12, 13, 31, 33, 127, 128, 160, 255}) {
            Edge.fault(1, "thread{}|" + sign);
            Edge.fault(1, "thread{|" + sign + "}");
        }
        Edge.fault(1, "|thr ead{}");
        Edge.fault(1, "thread{if r0|= =1{}}");
        Edge.fault(1, "thread{|r 0=1;}");
    }

    private static void wordSigns() {
        Edge.about("I", "letters (great ones, too) and digits, as many as stand together, are one TOKEN:");
        for (char sign : "azAZ09".toCharArray()) {
            Edge.fault(1, "plain |x" + sign + ";thread{}");
            Edge.fault(1, "plain |" + sign + "x;thread{}");
        }
        // The neighbours of 0, 9, A, Z, a, z are bytes of their own.
        for (char sign : "/:@[`|~".toCharArray()) {
            String text = "plain x" + sign + ";thread{}";
            LitmusHouse house = new LitmusHouse();
            House.load(house, 0, text);
            Edge.due("fault of " + text, house.fault(0) + " at " + house.fault(1), "1 at 7");
        }
        Edge.fault(1, "plain x|\u00e9;thread{}");
        Edge.fault(1, "|plainx;thread{}");
        Edge.fault(1, "thread{|lockm0;}");
        Edge.fault(1, "thread{|ifr0==1{}}");
        Edge.fine("thread{if r0==1{}else{}}thread{}");
    }

    private static void names() {
        Edge.about("I", "WORDS plain volatile final thread lock unlock done if else; CELLS u v w x y z; LOCALS r0 .. r4; MONITORS m0, m1;");
        for (String cell : "u v w x y z".split(" ")) {
            Edge.fine("plain " + cell + ";thread{" + cell + "=1;}");
        }
        for (String cell : "t { U Z a s".split(" ")) {
            Edge.fault(1, "plain |" + cell + ";thread{}");
        }
        for (int l = 0; l < 5; l++) {
            Edge.fine("thread{r" + l + "=1;}");
        }
        for (String local : "r5 r9 r R0 r00 r01 q0 s0 0r ra".split(" ")) {
            Edge.fault(1, "thread{|" + local + "=1;}");
            Edge.fault(1, "thread{r0=|" + local + ";}");
        }
        Edge.fine("thread{lock m0;lock m1;}");
        for (String monitor : "m2 m9 m M0 m00 l0 n0 0m r0 x".split(" ")) {
            Edge.fault(1, "thread{lock |" + monitor + ";}");
        }
        for (String word : "plai plains Plain volatil finale vinal".split(" ")) {
            Edge.fault(1, "|" + word + " x;thread{}");
        }
        for (String word : "threa threads Thread".split(" ")) {
            Edge.fault(1, "|" + word + "{}");
        }
        for (String word : "loc locks unloc lnlock don dones fi ie iff".split(" ")) {
            Edge.fault(1, "thread{|" + word + " m0;}");
        }
        Edge.fault(1, "thread{if r0==1{}|els{}}");
        Edge.fault(1, "thread{if r0==1{}|Else{}}");
    }

    private static void digits() {
        Edge.about("I", "DIGITS 0 .. 9 (others are none);");
        for (int d = 0; d < 10; d++) {
            Edge.fine("plain x;thread{r0=" + d + ";r0=r0+" + d + ";x=" + d + ";if r0==" + d + "{}}");
        }
        for (String number : "10 00 01 99 1a a 0x1".split(" ")) {
            Edge.fault(1, "thread{r0=|" + number + ";}");
            Edge.fault(1, "thread{r0=r0+|" + number + ";}");
            Edge.fault(1, "plain x;thread{x=|" + number + ";}");
            Edge.fault(1, "thread{if r0==|" + number + "{}}");
        }
        Edge.fault(1, "thread{r0=|-1;}");
    }

    private static void signs() {
        Edge.about("I", "SIGNS: ; = == + . { }");
        for (char sign : "!\"#$%&'()*,-/:<>?@[\\]^_`~".toCharArray()) {
            Edge.fault(1, "thread{}|" + sign);
        }
        Edge.fault(1, "thread{r0|==1;}");
        Edge.fault(1, "thread{if r0==|=1{}}");
        Edge.fault(1, "thread{if r0|=1{}}");
        Edge.fault(1, "thread{if r0==|==1{}}");
    }

    private static void repeats() {
        Edge.about("I", "(What is in { } comes never, once or more often, but the signs '{' '}'; what is in [ ] may be left out.)");
        Edge.fine("thread{}");
        Edge.fine("plain x;thread{}");
        Edge.fine("plain x;plain y;volatile u v;final w;thread{}");
        Edge.fault(1, "plain|;thread{}");
        Edge.fine("plain u v w x y;thread{}");
        Edge.fine("thread{r0=1;}");
        Edge.fine("thread{r0=1;r0=2;}thread{}thread{}");
        Edge.fine("thread{if r0==1{}}");
        Edge.fine("thread{if r0==1{r0=1;r0=2;}else{r0=1;r0=2;}}");
        Edge.fault(1, "thread{if r0==1{}else{}|else{}}");
        Edge.fault(1, "thread|;");
        Edge.fault(1, "thread{if r0==1|}");
        Edge.fault(1, "thread{|{}}");
    }

    private static void locals() {
        Edge.about("I", "A LOCAL is the thread's in which it stands first.");
        Edge.fault(3, "plain x;thread{x=r0;}thread{|r0=x;}");
        Edge.fault(3, "thread{if r0==0{}}thread{|r0=1;}");
        Edge.fault(3, "final z;thread{r1=r0.z;}thread{|r0=1;}");
        Edge.fault(3, "thread{r1=r0+1;}thread{}thread{}thread{|r0=1;}");
        Edge.fine("thread{r0=1;r0=r1;}thread{r2=r3;}thread{r4=r4;}");
    }

    private static void maker() {
        Edge.about("I", "The MAKER is the first thread with a WRITE of a final cell, or done.");
        String[] texts = {"thread{}", "final z;thread{r0=z;r0=r1.z;}", "plain x;thread{x=1;}", "thread{done;}",
            "thread{}thread{}thread{}thread{done;}", "final z;thread{}thread{z=1;}", "final z;thread{r0=z;}thread{z=1;done;}"};
        int[] makers = {-1, -1, -1, 0, 3, 1, 1};
        for (int i = 0; i < texts.length; i++) {
            Edge.due("the MAKER of " + texts[i], House.fresh(texts[i]).look(0, 6), makers[i]);
        }
    }

    private static void firstByPlace() {
        Edge.about("I", "FAULTS, the first one by its place,");
        Edge.fault(2, "thread{|x=1;r5=1;}!");
        Edge.fault(1, "thread{|r5=1;x=1;}");
        // The word stands ahead of what is wrong behind it.
        Edge.fault(5, "thread{lock m0;|lock m0!");
        Edge.fault(5, "thread{lock m0;|lock m0}");
        Edge.fault(5, "thread{|unlock m0");
        Edge.fault(4, EIGHT + "|lock !");
        Edge.fault(4, TWENTY + "|if !");
        Edge.fault(6, "final z;thread{if r0==0{|z!");
        Edge.fault(3, "thread{r0=1;}thread{|r0=x;}");
        Edge.fault(1, "plain x |x1;thread{}");
    }

    private static void leastAtOnePlace() {
        Edge.about("I", "at one place the least:");
        Edge.fault(1, "plain x|");
        Edge.fault(1, "plain x;thread{x=|y;}");
        Edge.fault(1, "thread{r0=1;}thread{r1=r1+|r0;}");
        Edge.fault(1, "thread{r0=1;}thread{lock |r0;}");
        Edge.fault(1, TWENTY + "|m0;}");
        Edge.fault(1, FOUR + "|thread1");
        Edge.fault(2, "plain u v w x y |y;thread{}");
        Edge.fault(2, EIGHT + "r0=|y;}");
        Edge.fault(2, EIGHT + "|y=1;}");
        Edge.fault(2, EIGHT + "r0=r1.|y;}");
        Edge.fault(2, TWENTY + "|x=1;}");
        Edge.fault(2, "plain x;thread{r0=r1.|y;}");
        Edge.fault(3, TWENTY + "|r0=1;}");
        Edge.fault(4, "thread{lock m0;lock m1;unlock m0;lock m0;unlock m0;lock m0;unlock m0;lock m0;|lock m0;}");
        Edge.fault(4, EIGHT + "|unlock m1;}");
        Edge.fault(4, EIGHT + "r0=r1.|x;}");
        Edge.fault(4, "thread{done;" + "r0=1;".repeat(19) + "|done;}");
        Edge.fault(4, "final z;plain x;thread{done;x=1;x=2;x=3;x=4;x=5;x=6;x=7;|z=1;}");
        Edge.fault(4, "thread{done;lock m0;unlock m0;lock m0;unlock m0;lock m0;unlock m0;lock m0;|done;}");
    }

    private static void standing() {
        Edge.about("I", "1 a byte or TOKEN that can't stand there");
        Edge.fault(1, "|;");
        Edge.fault(1, "|x=1;");
        Edge.fault(1, "thread{}|thread1{}");
        Edge.fault(1, "thread{}|plain x;");
        Edge.fault(1, "thread{}|}");
        Edge.fault(1, "plain x;thread{r0=|r1x;}");
        Edge.fault(1, "thread{r0=r1|=;}");
        Edge.fault(1, "final z;thread{r0=r1.|1;}");
        Edge.fault(1, "thread{done|{}}");
        Edge.fault(1, "thread{lock m0 |m1;}");
    }

    private static void theEnd() {
        Edge.about("I", "(the end, too: its place is the text's length)");
        String whole = "plain x;thread{r0=x;lock m0;if r0==1{x=r0+1;}else{}}";
        for (int size = 1; size < whole.length(); size++) {
            char last = whole.charAt(size - 1);
            char next = whole.charAt(size);
            boolean within = Character.isLetterOrDigit(last) && Character.isLetterOrDigit(next) || last == '=' && next == '=';
            // Behind the declaration the text may end: then there is no thread.
            if (!within && size != 8) {
                Edge.fault(1, whole.substring(0, size) + "|");
                Edge.fault(1, whole.substring(0, size) + " \n|");
            }
        }
        Edge.fine(whole);
        Edge.fault(7, whole.substring(0, 8) + "|");
    }

    private static void declared() {
        Edge.about("I", "2 (at a CELL) it is declared already; it is none, where it is used.");
        Edge.fault(2, "plain x |x;thread{}");
        Edge.fault(2, "plain x;final y |x;thread{}");
        Edge.fault(2, "thread{|z=1;}");
        Edge.fault(2, "plain x y z;thread{r0=|u;}");
        Edge.fault(2, "final z;thread{r0=r1.|u;}");
        Edge.fine("plain u;volatile v;final w;thread{u=1;v=1;w=1;r0=u;r0=v;r0=w;r0=r1.w;}");
    }

    private static void foreign() {
        Edge.about("I", "3 (at a LOCAL) it is another thread's.");
        String[] uses = {"|r4=1;", "r0=|r4;", "r0=|r4+1;", "|r4=x;", "x=|r4;", "if |r4==1{}", "|r4=r0.z;", "r0=|r4.z;",
            "if r0==1{|r4=1;}", "if r0==1{}else{x=|r4+1;}"};
        for (String use : uses) {
            Edge.fault(3, "plain x;final z;thread{r4=1;}thread{" + use + "}");
            Edge.fine("plain x;final z;thread{r4=1;" + use.replace("|", "") + "}thread{}");
        }
    }

    private static void sixthCell() {
        Edge.about("I", "4 too much: the 6th CELL (at it),");
        Edge.fine("plain u v w x y;thread{}");
        Edge.fine("plain u;volatile v;final w;plain x;volatile z;thread{}");
        Edge.fault(4, "plain u v w x y |z;thread{}");
        Edge.fault(4, "plain u;volatile v;final w;plain x;volatile z |y;thread{}");
        Edge.fault(4, "final z y;plain x w v;volatile |u;thread{}");
    }

    private static void fifthThread() {
        Edge.about("I", "the 5th thread (at the word),");
        Edge.fine(FOUR);
        Edge.fault(4, FOUR + "|thread{}");
        Edge.fault(4, FOUR + " \n |thread");
    }

    private static void ninthAction() {
        Edge.about("I", "the 9th ACTION (at its CELL, or at the word lock, unlock, done),");
        Edge.fine(EIGHT + "}");
        Edge.fine(EIGHT + "r0=1;if r0==1{r1=r0+1;}}");
        String[] ninth = {"|x=1;", "r0=|x;", "r0=r1.|z;", "|z=1;", "|lock m0;", "|unlock m0;", "|done;", "if r0==1{|x=1;}", "if r0==1{}else{r0=|x;}"};
        for (String one : ninth) {
            Edge.fault(4, EIGHT + one + "}");
            Edge.fault(4, EIGHT + "}thread{}thread{" + one + "}");
        }
        Edge.fine("plain x;final z;thread{r0=x;r0=r1.z;x=1;z=1;lock m0;unlock m0;r0=z;done;}");
        Edge.fault(4, "plain x;final z;thread{r0=x;r0=r1.z;x=1;z=1;lock m0;unlock m0;r0=z;done;r0=|z;}");
        Edge.fault(4, "plain x;thread{if r0==1{x=1;x=1;x=1;x=1;}else{x=1;x=1;x=1;x=1;}}thread{|x=1;}");
    }

    private static void statement21() {
        Edge.about("I", "the 21st STATEMENT (at its first TOKEN),");
        Edge.fine(TWENTY + "}");
        String[] more = {"|r1=1;", "|x=1;", "|r1=x;", "|r1=r2.z;", "|lock m0;", "|unlock m0;", "|done;", "|if r1==1{}", "|z=1;"};
        for (String one : more) {
            Edge.fault(4, "plain x;final z;" + TWENTY + one + "}");
            Edge.fault(4, "plain x;final z;" + TWENTY + "}thread{" + one.replace("r1", "r3") + "}");
        }
        Edge.fine("thread{" + "if r0==0{}else{}".repeat(20) + "}thread{}thread{}thread{}");
        Edge.fault(4, "thread{" + "if r0==0{}else{}".repeat(20) + "|if r0==0{}}");
        Edge.fault(4, "thread{" + "if r0==0{}".repeat(19) + "if r0==0{|r0=1;}}");
        Edge.fault(4, "thread{" + "if r0==0{}".repeat(19) + "if r0==0{}else{|r0=1;}}");
    }

    private static void fourthIf() {
        Edge.about("I", "an if within three others (at it).");
        Edge.fine("thread{if r0==0{if r0==0{if r0==0{r0=1;}}}}");
        Edge.fault(4, "thread{if r0==0{if r0==0{if r0==0{|if r0==0{}}}}}");
        Edge.fault(4, "thread{if r0==0{if r0==0{if r0==0{r0=1;}else{|if");
        Edge.fault(4, "thread{if r0==0{}else{if r0==0{}else{if r0==0{}else{|if r0==0{}}}}}");
        Edge.fine("thread{if r0==0{if r0==0{if r0==0{}if r0==0{}}if r0==0{}}else{if r0==0{if r0==0{}}}if r0==0{}}");
        Edge.fault(4, "thread{if r0==0{if r0==0{if r0==0{}}}}thread{if r1==0{if r1==0{if r1==0{|if r1==0{}}}}}");
    }

    private static void lockWords() {
        Edge.about("I", "5 (at the word) lock of a MONITOR that the thread has there, unlock of one that it hasn't;");
        Edge.fault(5, "thread{lock m0;|lock m0;}");
        Edge.fault(5, "thread{lock m1;lock m0;|lock m1;}");
        Edge.fault(5, "thread{|unlock m0;}");
        Edge.fault(5, "thread{lock m1;|unlock m0;}");
        Edge.fault(5, "thread{lock m0;unlock m0;|unlock m0;}");
        Edge.fault(5, "thread{lock m0;if r0==0{|lock m0;}}");
        Edge.fault(5, "thread{if r0==0{}else{|unlock m1;}}");
        // The next thread begins without any.
        Edge.fault(5, "thread{lock m0;}thread{|unlock m0;}");
        Edge.fine("thread{lock m0;}thread{lock m0;}");
        Edge.fine("thread{lock m0;unlock m0;lock m0;lock m1;unlock m0;unlock m1;}");
    }

    private static void braces() {
        Edge.about("I", "(at the } of an if's or else's BLOCK) the thread has other MONITORS there than ahead of the if.");
        Edge.fault(5, "thread{if r0==0{lock m0;|}}");
        Edge.fault(5, "thread{if r0==0{lock m0;|}else{lock m0;}}");
        Edge.fault(5, "thread{if r0==0{}else{lock m1;|}}");
        Edge.fault(5, "thread{lock m1;if r0==0{unlock m1;|}}");
        Edge.fault(5, "thread{lock m0;if r0==0{unlock m0;lock m1;|}}");
        Edge.fault(5, "thread{if r0==0{if r0==0{lock m0;|}unlock m0;}}");
        Edge.fault(5, "thread{if r0==0{lock m0;if r0==0{unlock m0;|}}}");
        Edge.fine("thread{if r0==0{lock m0;unlock m0;}else{lock m1;unlock m1;}}");
        Edge.fine("thread{lock m0;if r0==0{unlock m0;lock m0;}else{unlock m0;lock m0;}unlock m0;}");
        Edge.fine("thread{if r0==0{lock m0;if r0==0{lock m1;unlock m1;}unlock m0;}}");
        // A thread's own BLOCK may end with some.
        Edge.fine("thread{lock m0;lock m1;}");
    }

    private static void makersOwn() {
        Edge.about("I", "6 (at its first TOKEN) a WRITE of a final cell, or done, of a thread that isn't the MAKER, within an if, or behind done;");
        Edge.fault(6, "final z;thread{z=1;}thread{|z=1;}");
        Edge.fault(6, "final z;thread{z=1;}thread{|done;}");
        Edge.fault(6, "final z;thread{done;}thread{|z=1;}");
        Edge.fault(6, "final z;thread{done;}thread{|done;}");
        Edge.fault(6, "final y z;thread{y=1;}thread{}thread{|z=1;}");
        Edge.fault(6, "final z;thread{if r0==0{|z=1;}}");
        Edge.fault(6, "final z;thread{if r0==0{}else{|z=1;}}");
        Edge.fault(6, "final z;thread{z=1;if r0==0{|done;}}");
        Edge.fault(6, "final z;thread{if r0==0{if r0==0{}else{if r0==0{|done;}}}}");
        Edge.fault(6, "final z;thread{done;|z=1;}");
        Edge.fault(6, "final y z;thread{y=1;done;|z=1;}");
        Edge.fault(6, "thread{done;|done;}");
        Edge.fault(6, "final z;thread{z=1;}thread{|z}");
        Edge.fine("final y z;thread{}thread{if r0==0{r0=1;}y=1;z=2;y=3;done;r0=z;if r0==2{r0=r1.y;}}");
        Edge.fine("plain x;volatile y;final z;thread{z=1;done;x=1;y=1;}thread{x=1;if r0==0{y=1;}}");
    }

    private static void throughFinal() {
        Edge.about("I", "(at the CELL) a THROUGH READ of one that isn't final.");
        Edge.fault(6, "plain x;thread{r0=r1.|x;}");
        Edge.fault(6, "volatile x;final z;thread{r0=r1.|x;}");
        Edge.fault(6, "plain x;thread{if r0==0{r0=r0.|x;}}");
        Edge.fault(6, "plain x;thread{r0=r1.|x}");
        Edge.fine("final z;thread{r0=r1.z;r0=r0.z;}thread{if r2==0{r2=r3.z;}}");
    }

    private static void noThread() {
        Edge.about("I", "7 no thread (at the text's length).");
        Edge.fault(7, "|");
        Edge.fault(7, " |");
        Edge.fault(7, "plain x;|");
        Edge.fault(7, "plain u v;volatile w;final x y;\n\n|");
        Edge.fine("thread{}");
    }
}
