/** The last calls that are promised: What it is. */
public final class EdgeCallsTest {
    private static final int CALLS = 512;

    private interface Call {
        long on(ThreadedArchive x);
    }

    public static void main(String[] args) {
        theLastCallAnswers();
        typingAlone();
        enteringAlone();
        searchingAlone();
        addingAndDroppingAlone();
        Check.end();
    }

    private static void theLastCallAnswers() {
        Check.sentence("An object is used for at most 512 calls after it has been made");
        dueAtLast("type", x -> x.type('!'), 6);
        dueAtLast("enter", x -> x.enter(), 2);
        dueAtLast("wipe", x -> x.wipe(), 1);
        dueAtLast("add", x -> x.add(), 2);
        dueAtLast("drop", x -> x.drop(1), ThreadedArchive.OK);
        dueAtLast("tag", x -> x.tag(1, 7, true), ThreadedArchive.OK);
        dueAtLast("search", x -> x.search(), 1);
        dueAtLast("errorAt", x -> x.errorAt(), -1);
        dueAtLast("hit", x -> x.hit(0), 0);
        dueAtLast("related", x -> x.related(1), 1);
        dueAtLast("idOf", x -> x.idOf(1), 2);
        dueAtLast("answers", x -> x.answers(1), 0);
        dueAtLast("root", x -> x.root(2), 1);
        dueAtLast("word", x -> x.word(1, 0), Check.code("world"));
        dueAtLast("field", x -> x.field(1, 1), 1);
        dueAtLast("count", x -> x.count(5), 3);
    }

    private static void dueAtLast(String name, Call call, long want) {
        Check.due(name + " behind 511 calls", call.on(usedUp(x -> x.count(0))), want);
        Check.due(name + " behind 511 calls, most of them refused", call.on(usedUp(x -> x.type(256))), want);
        Check.due(name + " behind 511 calls, most of them wrong", call.on(usedUp(x -> x.drop(12))), want);
    }

    /** An object behind 511 calls: two messages, one FOUND, a line in THE DRAFT, a QUERY in THE LINE. */
    private static ThreadedArchive usedUp(Call idle) {
        ThreadedArchive x = new ThreadedArchive();
        int calls = enter(x, "i:1") + enter(x, "s:hello") + 1;
        x.add();
        calls += enter(x, "i:2") + enter(x, "r:1") + enter(x, "s:world") + enter(x, "f:me") + 1;
        x.add();
        calls += type(x, "hello") + 1;
        x.search();
        calls += enter(x, "i:3") + type(x, "world");
        for (int call = calls; call < CALLS - 1; call++) {
            idle.on(x);
        }
        return x;
    }

    /** How many calls that took. */
    private static int type(ThreadedArchive x, String text) {
        Check.type(x, text);
        return text.length();
    }

    private static int enter(ThreadedArchive x, String text) {
        Check.line(x, text);
        return text.length() + 1;
    }

    private static void typingAlone() {
        Check.sentence("An object is used for at most 512 calls after it has been made");
        ThreadedArchive x = new ThreadedArchive();
        for (int call = 1; call <= CALLS; call++) {
            if (call % 41 == 0) {
                Check.due("call " + call + ": enter", x.enter(), call / 41);
            } else {
                Check.due("call " + call + ": type", x.type('a'), call % 41);
            }
        }
    }

    private static void enteringAlone() {
        Check.sentence("30 lines there: FULL. Else the number of lines");
        ThreadedArchive x = new ThreadedArchive();
        for (int call = 1; call <= CALLS; call++) {
            Check.due("call " + call + ": enter", x.enter(), call <= 30 ? call : ThreadedArchive.FULL);
        }
    }

    private static void searchingAlone() {
        Check.sentence("errorAt is -1, and the numbers of the messages for which it holds now are FOUND: how many");
        ThreadedArchive x = new ThreadedArchive();
        for (int call = 1; call < CALLS; call += 4) {
            Check.due("call " + call + ": search of nothing", x.search(), ThreadedArchive.BAD);
            x.type('a');
            Check.due("call " + (call + 2) + ": search", x.search(), 0);
            Check.due("call " + (call + 3) + ": errorAt", x.errorAt(), -1);
        }
    }

    private static void addingAndDroppingAlone() {
        Check.sentence("The message is not there any more, as if it had never been added");
        ThreadedArchive x = new ThreadedArchive();
        for (int call = 1; call + 7 <= CALLS; call += 7) {
            Check.line(x, "i:7");
            Check.due("call " + (call + 4) + ": add", x.add(), 0);
            Check.due("call " + (call + 5) + ": idOf", x.idOf(0), 7);
            Check.due("call " + (call + 6) + ": drop", x.drop(0), ThreadedArchive.OK);
        }
    }
}
