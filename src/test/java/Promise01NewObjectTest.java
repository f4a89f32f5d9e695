public final class Promise01NewObjectTest {
    public static void main(String[] args) {
        ThreadedArchive x = new ThreadedArchive();
        for (int what = 0; what <= 5; what++) {
            Check.due("new: count(" + what + ")", x.count(what), 0);
        }
        for (int message = 0; message < 12; message++) {
            Check.due("new: count(" + (message + 6) + ")", x.count(message + 6), ThreadedArchive.REFUSED);
            Check.due("new: idOf(" + message + ")", x.idOf(message), ThreadedArchive.REFUSED);
            Check.due("new: drop(" + message + ")", x.drop(message), ThreadedArchive.REFUSED);
        }
        for (int id = 0; id < 64; id++) {
            Check.due("new: root(" + id + ")", x.root(id), id);
        }
        Check.due("new: errorAt", x.errorAt(), -1);
        Check.due("new: hit(0)", x.hit(0), ThreadedArchive.NONE);
        Check.due("new: related(0)", x.related(0), ThreadedArchive.NONE);
        Check.due("new: wipe", x.wipe(), 0);
        Check.due("new: add", x.add(), ThreadedArchive.BAD);
        objectsAreApart();
        Check.end();
    }

    private static void objectsAreApart() {
        ThreadedArchive x = new ThreadedArchive();
        ThreadedArchive y = new ThreadedArchive();
        Check.message(x, "i:1", "r:2", "s:hello");
        Check.line(x, "i:3");
        Check.type(x, "a");
        for (int what = 0; what <= 5; what++) {
            Check.due("untouched: count(" + what + ")", y.count(what), 0);
        }
        Check.due("untouched: root(1)", y.root(1), 1);
    }
}
