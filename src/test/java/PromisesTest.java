/** A placeholder main until the promises' own tests stand. */
public final class PromisesTest {
    public static void main(String[] args) {
        CountTreaty x = new CountTreaty();
        if (x.about(0) != 0) {
            System.exit(1);
        }
    }
}
