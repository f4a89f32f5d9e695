public final class Promise03EnterTest {
    public static void main(String[] args) {
        countsUpToFull();
        emptiesTheLine();
        keepsTheOrder();
        Check.end();
    }

    private static void countsUpToFull() {
        ThreadedArchive x = new ThreadedArchive();
        for (int n = 1; n <= 30; n++) {
            if (n == 29) {
                Check.type(x, "i:9");
            }
            Check.due("enter number " + n, x.enter(), n);
        }
        Check.type(x, "i:3");
        Check.due("enter at 30", x.enter(), ThreadedArchive.FULL);
        Check.due("the line stays", x.count(1), 3);
        Check.due("the draft stays", x.count(2), 30);
        Check.due("add of a draft that begins with an empty line", x.add(), ThreadedArchive.BAD);
        Check.due("enter of the line that stayed", x.enter(), 1);
        Check.due("add of the line that stayed", x.add(), 0);
        Check.due("the line that stayed is whole", x.idOf(0), 3);
    }

    private static void emptiesTheLine() {
        ThreadedArchive x = new ThreadedArchive();
        Check.type(x, "abc");
        Check.due("enter", x.enter(), 1);
        Check.due("line behind enter", x.count(1), 0);
        Check.due("draft behind enter", x.count(2), 1);
        Check.due("enter of an empty line", x.enter(), 2);
        Check.due("type behind enter", x.type('a'), 1);
    }

    /** A short line behind a long one has nothing of it, and the 30th line counts. */
    private static void keepsTheOrder() {
        ThreadedArchive x = new ThreadedArchive();
        Check.message(x, "z:abcdefgh", "z:abcdefgh", "z:abcdefgh", "z:abcdefgh");
        Check.line(x, "s:long words in here");
        Check.line(x, "i:5");
        Check.line(x, "");
        for (int n = 4; n <= 30; n++) {
            Check.line(x, n % 2 == 0 ? "b" : n == 29 ? "y" : "");
        }
        Check.due("add of 30 lines", x.add(), 0);
        Check.due("id", x.idOf(0), 5);
        Check.dueWords("30 lines", x, 0, "0long", "0words", "0in", "0here",
                "2b", "2b", "2b", "2b", "2b", "2b", "2b", "2b", "2b", "2b", "2b", "2b", "2b", "2y", "2b");
    }
}
