/** A ClassGroup of one D that is made anew before its 512 calls are used up. */
final class Renewed {
    private final int d;
    private ClassGroup group;
    private int calls;

    Renewed(int d) {
        this.d = d;
        calls = 512;
    }

    /** For one call. */
    ClassGroup now() {
        if (calls >= 512) {
            group = new ClassGroup();
            group.take(d);
            calls = 1;
        }
        calls++;
        return group;
    }
}
