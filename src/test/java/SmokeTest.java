public final class SmokeTest {
    public static void main(String[] args) {
        BracketDraws x = Calls.plain(10);
        Check.due("howMany()", x.howMany(), 28L * 64 * 3628800);
        x = Calls.plain(9);
        Check.due("howMany()", x.howMany(), 8L * 128 * 362880);
        Check.end();
    }
}
