/** The FAULTS of texts (promises 4 and 5), each with its place. */
public final class FaultsTest {
    private static final String FOUR = "thread{}thread{}thread{}thread{}";
    private static final String EIGHT = "plain x;final z;thread{x=1;x=1;x=1;x=1;x=1;x=1;x=1;x=1;";

    public static void main(String[] args) {
        tokens();
        grammar();
        cells();
        locals();
        tooMuch();
        monitors();
        maker();
        House.close("faults");
    }

    /** The place is where the stroke stands in the text; without one the text has no fault. */
    private static void check(int kind, String marked) {
        int place = marked.indexOf('|');
        String text = place < 0 ? marked : marked.substring(0, place) + marked.substring(place + 1);
        LitmusHouse house = new LitmusHouse();
        int got = House.load(house, 0, text);
        House.due("load of " + text, got < 0, place >= 0);
        House.due("fault of " + text, house.fault(0) + " at " + house.fault(1), kind + " at " + place);
        House.due("look behind " + text, House.thrown(() -> house.look(0, 0)) < 0, place >= 0);
    }

    private static void tokens() {
        check(1, "|!");
        check(1, "thread{}|\t");
        check(1, "thread{}|\r");
        check(1, "thread{|\0}");
        check(1, "thread{|\u00ff}");
        check(1, "thread{}|plainx;");
        check(1, "|Plain x;thread{}");
        check(1, "plain |X;thread{}");
        check(1, "plain |xy;thread{}");
        check(1, "plain |x1;thread{}");
        check(1, "thread{|r5=1;}");
        check(1, "thread{|R0=1;}");
        check(1, "thread{|r00=1;}");
        check(1, "thread{|r=1;}");
        check(1, "thread{r0=|10;}");
        check(1, "thread{r0=r0+|10;}");
        check(1, "thread{r0=|a;}");
        check(1, "thread{lock |m2;}");
        check(1, "thread{lock |m;}");
        check(1, "thread{|lockm0;}");
        check(1, "thread{if r0|= =1{}}");
        check(1, "thread{if r0==|=1{}}");
        check(1, "thread{r0|==1;}");
        check(1, "thread{if r0|=1{}}");
        check(0, "thread{if r0==1{}}");
        check(0, "thread{if\nr0\n==\n1\n{\n}\n}\n");
        check(0, " thread{}");
    }

    private static void grammar() {
        check(7, "|");
        check(7, "  \n|");
        check(7, "plain x; |");
        check(1, "plain|");
        check(1, "plain |");
        check(1, "plain|;");
        check(1, "plain x|");
        check(1, "plain x |thread{}");
        check(1, "plain x |plain y;thread{}");
        check(1, "plain x;|;thread{}");
        check(1, "thread|");
        check(1, "thread |thread{}");
        check(1, "thread{|");
        check(1, "thread{r0=1;|");
        check(1, "thread{}|;");
        check(1, "thread{}|}");
        check(1, "thread{}|plain x;");
        check(1, "thread{|;}");
        check(1, "thread{|{}}");
        check(1, "thread{|else{}}");
        check(1, "thread{|thread{}}");
        check(1, "thread{|1=r0;}");
        check(1, "thread{|m0;}");
        check(1, "thread{r0|;}");
        check(1, "thread{r0=|;}");
        check(1, "thread{r0=1|}");
        check(1, "thread{r0=1|+1;}");
        check(1, "thread{r0=r1+|;}");
        check(1, "thread{r0=r1+|r2;}");
        check(1, "thread{r0=r1+1|+1;}");
        check(1, "thread{r0=r1|}");
        check(1, "thread{r0=r1 |r2;}");
        check(1, "thread{r0=|r1r2;}");
        check(1, "final z;thread{r0=r1.|;}");
        check(1, "final z;thread{r0=r1.|r2;}");
        check(1, "final z;thread{r0=r1.z|.z;}");
        check(1, "final z;thread{r0=1|.z;}");
        check(1, "final z;thread{r0=r1+1|.z;}");
        check(1, "final z;thread{r0=z|.z;}");
        check(1, "plain x;thread{r0=x|+1;}");
        check(1, "plain x;thread{x|;}");
        check(1, "plain x;thread{x=|x;}");
        check(1, "plain x;thread{x=|y;}");
        check(1, "plain x;final z;thread{x=r0|.z;}");
        check(1, "plain x;thread{x=1|}");
        check(1, "thread{r0=|m0;}");
        check(1, "thread{r0=|done;}");
        check(1, "thread{lock |;}");
        check(1, "thread{lock |r0;}");
        check(1, "thread{lock m0|}");
        check(1, "thread{done|}");
        check(1, "thread{done |m0;}");
        check(1, "thread{if |1==r0{}}");
        check(1, "thread{if r0|{}}");
        check(1, "thread{if r0==|r1{}}");
        check(1, "thread{if r0==1|;}");
        check(1, "thread{if r0==1 |r0=1;}");
        check(1, "thread{if r0==1{|");
        check(1, "thread{if r0==1{}|");
        check(1, "thread{if r0==1{}|;}");
        check(1, "thread{if r0==1{}else|}");
        check(1, "thread{if r0==1{}else |if r0==2{}}");
        check(1, "thread{if r0==1{}else{}|else{}}");
        check(0, "thread{if r0==1{}else{if r0==2{}}}");
        check(0, "plain x;plain y;volatile z;plain w;thread{x=1;}");
    }

    private static void cells() {
        check(2, "plain x |x;thread{}");
        check(2, "plain x;volatile |x;thread{}");
        check(2, "plain u v w x y |u;thread{}");
        check(2, "thread{|x=1;}");
        check(2, "thread{r0=|x;}");
        check(2, "final y;thread{r0=r1.|x;}");
        check(2, "plain x;thread{|y");
        check(2, "plain x;thread{|y;}");
        check(0, "plain x y;thread{x=1;r0=x;}");
    }

    private static void locals() {
        check(3, "thread{r0=1;}thread{|r0=1;}");
        check(3, "thread{r0=1;}thread{r1=|r0;}");
        check(3, "thread{r0=1;}thread{r1=|r0+1;}");
        check(3, "thread{r0=1;}thread{if |r0==1{}}");
        check(3, "plain x;thread{r0=1;}thread{x=|r0;}");
        check(3, "plain x;thread{x=r3;}thread{|r3=x;}");
        check(3, "final z;thread{r0=1;}thread{r1=|r0.z;}");
        check(3, "final z;thread{r0=r1.z;}thread{|r1=1;}");
        check(3, "thread{if r2==0{}}thread{|r2=1;}");
        check(0, "thread{r0=r1;r1=r0;}thread{r2=r3;r4=r2;}");
    }

    private static void tooMuch() {
        check(4, "plain u v w x y |z;thread{}");
        check(4, "plain u v;volatile w x;final y |z;thread{}");
        check(0, "plain u v;volatile w x;final y;thread{}");
        check(4, FOUR + "|thread{}");
        check(4, FOUR + "|thread!");
        check(0, FOUR);
        check(4, EIGHT + "|x=1;}");
        check(4, EIGHT + "|x;}");
        check(4, EIGHT + "|z=1;}");
        check(4, EIGHT + "r0=|x;}");
        check(4, EIGHT + "r0=r1.|z;}");
        check(4, EIGHT + "r0=r1.|x;}");
        check(2, EIGHT + "r0=r1.|y;}");
        check(2, EIGHT + "|y=1;}");
        check(4, EIGHT + "|lock m0;}");
        check(4, EIGHT + "|unlock m0;}");
        check(4, EIGHT + "|lock;}");
        check(4, EIGHT + "|done;}");
        check(0, EIGHT + "r0=1;if r0==1{}}");
        check(1, EIGHT + "r0=|!x;}");
        String twenty = "thread{" + "r0=1;".repeat(10) + "}thread{" + "r1=1;".repeat(8) + "if r1==1{r1=2;}";
        check(0, twenty + "}");
        check(4, twenty + "|r1=1;}");
        check(3, twenty + "|r0=1;}");
        check(2, twenty + "|x=1;}");
        check(1, twenty + "|m0;}");
        check(4, twenty + "|if r1==1{}}");
        check(4, twenty + "|lock m0;}");
        check(4, twenty + "|done;}");
        check(4, "plain x;" + twenty + "|x=1;}");
        check(4, "thread{if r0==0{if r0==0{if r0==0{|if r0==0{}}}}}");
        check(4, "thread{if r0==0{}else{if r0==0{}else{if r0==0{}else{|if r1}}}}");
        check(0, "thread{if r0==0{if r0==0{if r0==0{}}}if r0==0{if r0==0{if r0==0{}}}}");
        check(0, "thread{if r0==0{}if r0==0{}if r0==0{}if r0==0{}}");
    }

    private static void monitors() {
        check(5, "thread{lock m0;|lock m0;}");
        check(5, "thread{lock m0;|lock m0");
        check(5, "thread{|unlock m1;}");
        check(5, "thread{lock m0;|unlock m1;}");
        check(5, "thread{lock m0;unlock m0;|unlock m0;}");
        check(5, "thread{lock m0;}thread{|unlock m0;}");
        check(5, "thread{if r0==0{lock m0;|}}");
        check(5, "thread{lock m0;if r0==0{unlock m0;|}}");
        check(5, "thread{lock m0;if r0==0{unlock m0;lock m1;|}}");
        check(5, "thread{if r0==0{}else{lock m1;|}}");
        check(5, "thread{if r0==0{if r0==0{lock m1;|}unlock m1;}}");
        check(5, "thread{lock m0;if r0==0{unlock m0;lock m0;}else{unlock m0;|}}");
        check(0, "thread{lock m0;if r0==0{unlock m0;lock m0;}else{lock m1;unlock m1;}}");
        check(0, "thread{lock m0;lock m1;unlock m0;unlock m1;lock m0;}thread{lock m0;}");
        check(5, "thread{lock m0;if r0==0{|lock m0;}}");
    }

    private static void maker() {
        check(6, "final z;thread{z=1;}thread{|z=1;}");
        check(6, "final z;thread{z=1;}thread{|done;}");
        check(6, "final z;thread{done;}thread{|z=1;}");
        check(6, "thread{done;}thread{|done;}");
        check(6, "thread{done;|done;}");
        check(6, "final z;thread{done;|z=1;}");
        check(6, "final z;thread{if r0==0{|z=1;}}");
        check(6, "thread{if r0==0{}else{|done;}}");
        check(6, "final z;thread{if r0==0{|z");
        check(6, "plain x;thread{r0=r1.|x;}");
        check(6, "volatile x;thread{r0=r1.|x;}");
        check(0, "final z;thread{}thread{z=1;z=2;done;r0=z;}thread{r1=z;if r2==0{r2=r1.z;}}");
        check(0, "final z;plain x;thread{if r0==0{x=1;}z=1;}");
        check(0, "thread{done;}");
    }
}
