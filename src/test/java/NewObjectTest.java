public final class NewObjectTest {
    public static void main(String[] args) {
        if (new TrapCorner().count(0) != 0) {
            System.out.println("a new object has people");
            System.exit(1);
        }
    }
}
