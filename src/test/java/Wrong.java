/** Numbers that lie beside a range, or far off, or that would wrap round onto a good one. */
final class Wrong {
    private Wrong() {
    }

    static int[] below(int least) {
        return new int[] {least - 1, least - 2, -12, -256, Integer.MIN_VALUE, Integer.MIN_VALUE + 1};
    }

    static int[] above(int greatest) {
        return new int[] {greatest + 1, greatest + 2, (1 << 30) + greatest, Integer.MAX_VALUE};
    }

    static int[] outside(int least, int greatest) {
        int[] low = below(least);
        int[] high = above(greatest);
        int[] all = new int[low.length + high.length];
        System.arraycopy(low, 0, all, 0, low.length);
        System.arraycopy(high, 0, all, low.length, high.length);
        return all;
    }
}
