public final class Promise10HitTest {
    public static void main(String[] args) {
        ThreadedArchive x = new ThreadedArchive();
        Check.due("hit before any search", x.hit(0), ThreadedArchive.NONE);
        for (int n = 0; n < 12; n++) {
            Check.message(x, "i:" + (63 - n), n % 3 == 0 ? "s:yes" : "s:no");
        }
        Check.due("hit before any search", x.hit(0), ThreadedArchive.NONE);
        Check.search(x, "yes");
        Check.dueHits("yes", x, 0, 3, 6, 9);
        int[] wrong = {-1, 4, 11, 12, Integer.MIN_VALUE, Integer.MAX_VALUE};
        for (int k : wrong) {
            Check.due("hit(" + k + ")", x.hit(k), ThreadedArchive.NONE);
        }
        x.drop(3);
        Check.dueHits("a dropped one counts", x, 0, 3, 6, 9);
        Check.message(x, "i:1", "s:no");
        Check.dueHits("a number given again counts", x, 0, 3, 6, 9);
        Check.search(x, "yes");
        Check.dueHits("it does not count for a new search", x, 0, 6, 9);
        Check.search(x, "no|yes");
        Check.dueHits("all", x, 0, 1, 2, 3, 4, 5, 6, 7, 8, 9, 10, 11);
        x.drop(11);
        Check.search(x, "!none");
        Check.dueHits("only those that are there", x, 0, 1, 2, 3, 4, 5, 6, 7, 8, 9, 10);
        Check.end();
    }
}
