public final class PromiseTests {
    public static void main(String[] args) {
        if (new TurnField().count(0) != 3) { System.out.println("count(0)"); System.exit(1); }
    }
}
