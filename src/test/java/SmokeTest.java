public final class SmokeTest {
    public static void main(String[] args) {
        LitmusHouse house = House.fresh("plain x y;thread{x=1;r0=y;}thread{y=1;r1=x;}");
        House.due("outcomes 0", House.outcomes(house, 0, 0), "01000/0 10000/0 11000/0");
        House.close("smoke");
    }
}
