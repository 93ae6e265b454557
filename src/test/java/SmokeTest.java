/** A first look at a new object. */
public final class SmokeTest {
    public static void main(String[] args) {
        Due due = new Due("SmokeTest");
        due.is("orders()", new HandOverHorse().orders(), 1);
        due.end();
    }
}
