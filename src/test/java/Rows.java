/** Rows for Script, put together. */
final class Rows {
    private Rows() { }

    static String[] with(String[] first, String... then) {
        String[] all = new String[first.length + then.length];
        System.arraycopy(first, 0, all, 0, first.length);
        System.arraycopy(then, 0, all, first.length, then.length);
        return all;
    }
}
