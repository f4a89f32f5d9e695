public final class Promise04WipeTest {
    public static void main(String[] args) {
        ThreadedArchive x = new ThreadedArchive();
        Check.message(x, "i:1", "s:hello");
        Check.search(x, "hello");
        Check.search(x, "a b");
        Check.type(x, "ab");
        Check.due("wipe of a line alone", x.wipe(), 0);
        Check.due("line behind wipe", x.count(1), 0);
        Check.line(x, "i:2");
        Check.line(x, "");
        Check.type(x, "s");
        Check.due("wipe of two lines", x.wipe(), 2);
        Check.due("line behind wipe", x.count(1), 0);
        Check.due("draft behind wipe", x.count(2), 0);
        Check.due("wipe again", x.wipe(), 0);
        Check.due("add behind wipe", x.add(), ThreadedArchive.BAD);
        Check.due("messages stay", x.count(0), 1);
        Check.due("found ones stay", x.hit(0), 0);
        Check.due("errorAt stays", x.errorAt(), 1);
        for (int n = 1; n <= 30; n++) {
            x.enter();
        }
        Check.due("wipe of a full draft", x.wipe(), 30);
        Check.due("enter behind wipe", x.enter(), 1);
        Check.end();
    }
}
