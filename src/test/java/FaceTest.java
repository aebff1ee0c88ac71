/** Promises 1 to 3, 5 to 9, 16 to 18: what is asked and set around texts and RUNS. */
public final class FaceTest {
    public static void main(String[] args) {
        newObject();
        Bench.finish();
    }

    private static void newObject() {
        TaintHouse x = new TaintHouse();
        Bench.due("count(0)", x.count(0), 7);
    }
}
