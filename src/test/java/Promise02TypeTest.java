public final class Promise02TypeTest {
    public static void main(String[] args) {
        countsUpToFull();
        refusesOutOfRange();
        keepsEveryCharacter();
        Check.end();
    }

    private static void countsUpToFull() {
        ThreadedArchive x = new ThreadedArchive();
        for (int n = 1; n <= 40; n++) {
            Check.due("type number " + n, x.type(n == 40 ? ')' : '('), n);
        }
        Check.due("type at 40", x.type('a'), ThreadedArchive.FULL);
        Check.due("type 0 at 40", x.type(0), ThreadedArchive.FULL);
        Check.due("type -1 at 40", x.type(-1), ThreadedArchive.REFUSED);
        Check.due("type 256 at 40", x.type(256), ThreadedArchive.REFUSED);
        Check.due("count(1) at 40", x.count(1), 40);
        x.enter();
        Check.due("type after enter", x.type('a'), 1);
    }

    private static void refusesOutOfRange() {
        ThreadedArchive x = new ThreadedArchive();
        Check.due("type 0", x.type(0), 1);
        Check.due("type 255", x.type(255), 2);
        int[] wrong = {-1, 256, 256 + 'a', -256, Integer.MIN_VALUE, Integer.MAX_VALUE};
        for (int c : wrong) {
            Check.due("type " + c, x.type(c), ThreadedArchive.REFUSED);
        }
        Check.due("count(1) behind refused ones", x.count(1), 2);
    }

    /** The 40th character counts, a refused one does not. */
    private static void keepsEveryCharacter() {
        ThreadedArchive x = new ThreadedArchive();
        Check.line(x, "i:1");
        Check.type(x, "s:");
        for (int n = 0; n < 37; n++) {
            x.type(' ');
        }
        x.type('q');
        x.type('z');
        x.type(-1);
        Check.due("enter of a full line", x.enter(), 2);
        Check.due("add of a full line", x.add(), 0);
        Check.dueWords("full line", x, 0, "0q");
        for (int c = 0; c < 256; c++) {
            dueAsBoundary(c);
        }
    }

    /** Only the very same character cuts. */
    private static void dueAsBoundary(int c) {
        ThreadedArchive x = new ThreadedArchive();
        Check.line(x, "i:1");
        Check.type(x, "m:");
        x.type(c);
        Check.line(x, "");
        Check.line(x, "");
        x.type('-');
        x.type(c);
        Check.line(x, "");
        x.type('-');
        x.type(c ^ 1);
        Check.line(x, "");
        x.add();
        Check.due("leaves with the boundary " + c, x.count(6), 1);
    }
}
