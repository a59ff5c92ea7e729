/** Numbers that look mixed but are the same in every run. */
public final class Mixed {
    private int seed;

    public Mixed(int seed) {
        this.seed = seed * 1000003;
    }

    public int any() {
        int n = seed++;
        n = (n ^ (n >>> 16)) * 0x7feb352d;
        n = (n ^ (n >>> 15)) * 0x846ca68b;
        return n ^ (n >>> 16);
    }

    public int below(int bound) {
        return Math.floorMod(any(), bound);
    }

    public int oneOf(int... numbers) {
        return numbers[below(numbers.length)];
    }

    /** A call of ends that is not refused. */
    public String ends() {
        int starts = 0;
        int goals = 0;
        while (!Model.areEnds(starts, goals)) {
            starts = below(32);
            goals = below(32);
        }
        return Calls.of("ends", starts, goals);
    }
}
