public final class Promise11RelatedTest {
    public static void main(String[] args) {
        ThreadedArchive x = new ThreadedArchive();
        Check.message(x, "i:1", "s:one");
        Check.message(x, "i:2", "s:two");
        Check.message(x, "i:3", "r:1", "s:three");
        Check.message(x, "i:4", "r:50", "s:four");
        Check.message(x, "i:5", "r:50", "s:five");
        Check.message(x, "i:6", "r:1 3", "s:six");
        Check.dueRelated("before any search", x);
        dueRelatedTo(x, "one", 0, 2, 5);
        dueRelatedTo(x, "three", 0, 2, 5);
        dueRelatedTo(x, "six", 0, 2, 5);
        dueRelatedTo(x, "two", 1);
        dueRelatedTo(x, "five", 3, 4);
        dueRelatedTo(x, "two|six", 0, 1, 2, 5);
        dueRelatedTo(x, "two|four|six", 0, 1, 2, 3, 4, 5);
        dueRelatedTo(x, "none");
        dueRelatedTo(x, "five", 3, 4);
        int[] wrong = {-1, 2, 12, Integer.MIN_VALUE, Integer.MAX_VALUE};
        for (int k : wrong) {
            Check.due("related(" + k + ")", x.related(k), ThreadedArchive.NONE);
        }
        dropsAndNewOnes();
        Check.end();
    }

    private static void dueRelatedTo(ThreadedArchive x, String query, int... numbers) {
        Check.search(x, query);
        Check.dueRelated(query, x, numbers);
    }

    private static void dropsAndNewOnes() {
        ThreadedArchive x = new ThreadedArchive();
        Check.message(x, "i:0", "s:a");
        Check.message(x, "i:1", "r:0", "s:b");
        Check.message(x, "i:2", "r:9", "s:c");
        Check.search(x, "a");
        Check.dueRelated("a", x, 0, 1);
        x.drop(0);
        Check.dueRelated("the found one is not there", x);
        Check.message(x, "i:9");
        Check.dueRelated("its number is given again", x, 0, 2);
        Check.message(x, "i:3", "r:9");
        Check.dueRelated("a new one comes into the thread", x, 0, 2, 3);
        x.drop(2);
        Check.dueRelated("one goes out of the thread", x, 0, 3);
        Check.search(x, "b)");
        Check.dueRelated("a bad search changes nothing", x, 0, 3);
    }
}
