public final class Promise09ErrorAtTest {
    public static void main(String[] args) {
        ThreadedArchive x = new ThreadedArchive();
        Check.due("errorAt before any search", x.errorAt(), -1);
        Check.type(x, "a)");
        Check.due("errorAt before the search", x.errorAt(), -1);
        x.search();
        Check.due("errorAt", x.errorAt(), 1);
        Check.due("errorAt again", x.errorAt(), 1);
        Check.message(x, "i:1");
        x.add();
        x.wipe();
        x.drop(0);
        Check.type(x, "a");
        Check.due("errorAt behind other calls", x.errorAt(), 1);
        x.search();
        Check.due("errorAt behind a good search", x.errorAt(), -1);
        x.search();
        Check.due("errorAt behind an empty search", x.errorAt(), 0);
        Check.search(x, "!!!!!!!!!!!!!!!!!!!!!!!!!!!!!!!!!!!!!!!!");
        Check.due("errorAt at 40", x.errorAt(), 40);
        Check.search(x, "!!!!!!!!!!!!!!!!!!!!!!!!!!!!!!!!!!!!!!!&");
        Check.due("errorAt at 39", x.errorAt(), 39);
        Check.search(x, "!!!!!!!!!!!!!!!!!!!!!!!!!!!!!!!!!!!!!!!a");
        Check.due("no error in 40", x.errorAt(), -1);
        Check.end();
    }
}
