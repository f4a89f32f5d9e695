import java.util.ArrayList;
import java.util.List;
import java.util.function.Consumer;
import java.util.function.ToLongFunction;

/**
 * A refused call changes nothing. Two archives get the same calls, and one of them a refused call more; all that can
 * be seen of them then, and by the calls that go on from there, must be alike.
 */
public final class EdgeRefusedTest {
    private static final int[] NO_NUMBERS = {-1, 12, Integer.MIN_VALUE, Integer.MAX_VALUE};
    private static final String REFUSED_CALLS = "A refused call (an answer below 0) changes nothing";
    private static final String EMPTIED = "but that THE LINE or THE DRAFT may become empty as said";

    public static void main(String[] args) {
        refusedByANewObject();
        refusedWithSomeMessages();
        refusedWithAFullLineAndDraft();
        refusedForDroppedMessages();
        badAdds();
        refusedAdds();
        fullAdds();
        badSearches();
        goodLooks();
        Check.end();
    }

    private static void nothing(ThreadedArchive x) {
    }

    /** Messages 0, 1 and 3, what was found, a place of an error, two lines and a part of a third. */
    private static void someMessages(ThreadedArchive x) {
        someMessagesAndNoDraft(x);
        Check.line(x, "i:9");
        Check.line(x, "s:d e");
        Check.type(x, "f:g");
    }

    private static void someMessagesAndNoDraft(ThreadedArchive x) {
        Check.message(x, "i:1", "r:5 6", "s:a b");
        Check.message(x, "i:2", "r:1", "f:b", "", "c");
        Check.message(x, "i:3", "r:7");
        Check.message(x, "i:4", "r:5 7", "s:a");
        x.tag(0, 0, true);
        x.tag(1, 7, true);
        Check.search(x, "a");
        Check.search(x, "a)");
        x.drop(2);
    }

    private static void twelveMessages(ThreadedArchive x) {
        for (int n = 0; n < 12; n++) {
            Check.message(x, "i:" + n, n == 0 ? "s:a" : "r:" + n / 2);
        }
        x.tag(11, 3, true);
        Check.search(x, "a");
    }

    private static void allIsFull(ThreadedArchive x) {
        twelveMessages(x);
        Check.line(x, "i:39");
        Check.line(x, "s:d");
        Check.emptyLines(x, 29);
        Check.line(x, "h");
        Check.type(x, "s:" + " ".repeat(37) + "k");
    }

    /** Looks first, then goes on with THE LINE and THE DRAFT, and at last with the TAGS. */
    private static List<Long> seen(ThreadedArchive x) {
        List<Long> seen = new ArrayList<>();
        for (int what = 0; what < 18; what++) {
            seen.add((long) x.count(what));
        }
        for (int n = 0; n < 12; n++) {
            seen.add((long) x.hit(n));
            seen.add((long) x.related(n));
            seen.add((long) x.idOf(n));
            seen.add((long) x.answers(n));
            seeWords(x, n, 3, seen);
        }
        for (int id = 0; id < 12; id++) {
            seen.add((long) x.root(id));
        }
        seen.add((long) x.root(63));
        seeDraft(x, seen);
        seeLine(x, seen);
        seeTags(x, seen);
        return seen;
    }

    private static void seeWords(ThreadedArchive x, int message, int words, List<Long> seen) {
        for (int k = 0; k < words; k++) {
            seen.add(x.word(message, k));
            seen.add((long) x.field(message, k));
        }
    }

    private static void seeDraft(ThreadedArchive x, List<Long> seen) {
        seen.add((long) x.drop(0));
        seen.add((long) x.add());
        seen.add((long) x.idOf(0));
        seeWords(x, 0, 5, seen);
    }

    /** THE LINE becomes a header of a new message. */
    private static void seeLine(ThreadedArchive x, List<Long> seen) {
        seen.add((long) x.enter());
        seen.add((long) x.drop(1));
        int number = Check.message(x, "i:40");
        seen.add((long) number);
        seeWords(x, number, 3, seen);
    }

    private static void seeTags(ThreadedArchive x, List<Long> seen) {
        for (int tag = 0; tag < 8; tag++) {
            seen.add((long) Check.search(x, "t:" + tag));
            seen.add((long) x.hit(0));
            seen.add((long) x.hit(1));
        }
    }

    private static void dueAlike(String what, ThreadedArchive asked, ThreadedArchive left) {
        List<Long> seenOfAsked = seen(asked);
        List<Long> seenOfLeft = seen(left);
        for (int i = 0; i < seenOfLeft.size(); i++) {
            Check.due(what + " changes nothing: look " + i, seenOfAsked.get(i), seenOfLeft.get(i));
        }
    }

    private static void dueUnchanged(String what, int answer, Consumer<ThreadedArchive> story,
            ToLongFunction<ThreadedArchive> call) {
        ThreadedArchive asked = new ThreadedArchive();
        ThreadedArchive left = new ThreadedArchive();
        story.accept(asked);
        story.accept(left);
        Check.due(what, call.applyAsLong(asked), answer);
        Check.due("errorAt behind " + what, asked.errorAt(), left.errorAt());
        dueAlike(what, asked, left);
    }

    private static void refusedEverywhere(String where, Consumer<ThreadedArchive> story) {
        int refused = ThreadedArchive.REFUSED;
        for (int c : new int[] {-1, 256, Integer.MIN_VALUE, Integer.MAX_VALUE}) {
            dueUnchanged("type(" + c + ") of " + where, refused, story, x -> x.type(c));
        }
        for (int n : NO_NUMBERS) {
            dueRefusedFor(where, n, story);
            dueUnchanged("hit(" + n + ") of " + where, ThreadedArchive.NONE, story, x -> x.hit(n));
            dueUnchanged("related(" + n + ") of " + where, ThreadedArchive.NONE, story, x -> x.related(n));
        }
        for (int id : new int[] {-1, 64, Integer.MIN_VALUE, Integer.MAX_VALUE}) {
            dueUnchanged("root(" + id + ") of " + where, refused, story, x -> x.root(id));
        }
        for (int what : new int[] {-1, 18, Integer.MIN_VALUE, Integer.MAX_VALUE}) {
            dueUnchanged("count(" + what + ") of " + where, refused, story, x -> x.count(what));
        }
    }

    private static void dueRefusedFor(String where, int message, Consumer<ThreadedArchive> story) {
        int refused = ThreadedArchive.REFUSED;
        String call = "(" + message + ") of " + where;
        dueUnchanged("drop" + call, refused, story, x -> x.drop(message));
        dueUnchanged("tag on" + call, refused, story, x -> x.tag(message, 0, true));
        dueUnchanged("tag off" + call, refused, story, x -> x.tag(message, 7, false));
        dueUnchanged("idOf" + call, refused, story, x -> x.idOf(message));
        dueUnchanged("answers" + call, refused, story, x -> x.answers(message));
        dueUnchanged("word" + call, refused, story, x -> x.word(message, 0));
        dueUnchanged("field" + call, refused, story, x -> x.field(message, 0));
    }

    private static void dueWrongTags(String where, int message, Consumer<ThreadedArchive> story) {
        for (int tag : new int[] {-1, 8, 32, 39, Integer.MIN_VALUE, Integer.MAX_VALUE}) {
            String call = "tag(" + message + ", " + tag + ") of " + where;
            dueUnchanged(call, ThreadedArchive.REFUSED, story, x -> x.tag(message, tag, true));
            dueUnchanged(call + " off", ThreadedArchive.REFUSED, story, x -> x.tag(message, tag, false));
        }
    }

    private static void refusedByANewObject() {
        Check.sentence(REFUSED_CALLS);
        refusedEverywhere("a new object", EdgeRefusedTest::nothing);
        dueRefusedFor("a new object", 0, EdgeRefusedTest::nothing);
        dueRefusedFor("a new object", 11, EdgeRefusedTest::nothing);
        dueUnchanged("hit(0) of a new object", ThreadedArchive.NONE, EdgeRefusedTest::nothing, x -> x.hit(0));
        dueUnchanged("related(0) of a new object", ThreadedArchive.NONE, EdgeRefusedTest::nothing, x -> x.related(0));
        dueUnchanged("count(6) of a new object", ThreadedArchive.REFUSED, EdgeRefusedTest::nothing, x -> x.count(6));
        dueUnchanged("add of a new object", ThreadedArchive.BAD, EdgeRefusedTest::nothing, ThreadedArchive::add);
    }

    private static void refusedWithSomeMessages() {
        Check.sentence(REFUSED_CALLS);
        Consumer<ThreadedArchive> story = EdgeRefusedTest::someMessages;
        refusedEverywhere("some messages", story);
        dueRefusedFor("some messages", 4, story);
        dueWrongTags("some messages", 0, story);
        dueWrongTags("some messages", 1, story);
        dueUnchanged("answers(0)", ThreadedArchive.NONE, story, x -> x.answers(0));
        dueUnchanged("word(0, 2)", ThreadedArchive.REFUSED, story, x -> x.word(0, 2));
        dueUnchanged("word(0, -1)", ThreadedArchive.REFUSED, story, x -> x.word(0, -1));
        dueUnchanged("field(0, 50)", ThreadedArchive.REFUSED, story, x -> x.field(0, 50));
        dueUnchanged("hit(2)", ThreadedArchive.NONE, story, x -> x.hit(2));
        dueUnchanged("related(3)", ThreadedArchive.NONE, story, x -> x.related(3));
    }

    private static void refusedWithAFullLineAndDraft() {
        Check.sentence(REFUSED_CALLS);
        Consumer<ThreadedArchive> story = EdgeRefusedTest::allIsFull;
        refusedEverywhere("a full archive", story);
        dueWrongTags("a full archive", 11, story);
        dueUnchanged("type(0) at 40", ThreadedArchive.FULL, story, x -> x.type(0));
        dueUnchanged("type(255) at 40", ThreadedArchive.FULL, story, x -> x.type(255));
        dueUnchanged("enter at 30", ThreadedArchive.FULL, story, ThreadedArchive::enter);
    }

    private static void refusedForDroppedMessages() {
        Check.sentence(REFUSED_CALLS);
        dueRefusedFor("some messages, 2 being dropped", 2, EdgeRefusedTest::someMessages);
        dueUnchanged("count(8)", ThreadedArchive.REFUSED, EdgeRefusedTest::someMessages, x -> x.count(8));
    }

    private static void dueRefusedAdd(int answer, Consumer<ThreadedArchive> story, String... lines) {
        String what = "add of " + String.join(", ", lines);
        ThreadedArchive asked = new ThreadedArchive();
        ThreadedArchive left = new ThreadedArchive();
        story.accept(asked);
        story.accept(left);
        Check.due(what, Check.message(asked, lines), answer);
        Check.due("lines behind " + what, asked.count(2), 0);
        Check.due("errorAt behind " + what, asked.errorAt(), left.errorAt());
        Check.type(asked, "s:v");
        Check.type(left, "s:v");
        dueAlike(what, asked, left);
    }

    private static void badAdds() {
        Check.sentence(EMPTIED);
        Consumer<ThreadedArchive> story = EdgeRefusedTest::someMessagesAndNoDraft;
        dueRefusedAdd(ThreadedArchive.BAD, EdgeRefusedTest::nothing, "s:q", "r:1 2 3", "", "q");
        dueRefusedAdd(ThreadedArchive.BAD, story);
        dueRefusedAdd(ThreadedArchive.BAD, story, "i:64", "r:6 5", "s:q", "", "q");
        dueRefusedAdd(ThreadedArchive.BAD, story, "r:2 3 4", "s:q");
        dueRefusedAdd(ThreadedArchive.BAD, EdgeRefusedTest::twelveMessages, "i:", "r:2 3 4", "s:q");
    }

    private static void refusedAdds() {
        Check.sentence(EMPTIED);
        Consumer<ThreadedArchive> story = EdgeRefusedTest::someMessagesAndNoDraft;
        dueRefusedAdd(ThreadedArchive.REFUSED, story, "i:1", "r:8 9", "s:q", "m:x", "", "-x", "-x");
        dueRefusedAdd(ThreadedArchive.REFUSED, story, "i:02", "r:8 9", "s:q q", "", "q");
        dueRefusedAdd(ThreadedArchive.REFUSED, EdgeRefusedTest::twelveMessages, "i:11", "r:8 9", "s:q q");
    }

    private static void fullAdds() {
        Check.sentence(EMPTIED);
        dueRefusedAdd(ThreadedArchive.FULL, EdgeRefusedTest::twelveMessages, "i:12", "r:0 1 2", "s:q", "", "q");
        dueRefusedAdd(ThreadedArchive.FULL, EdgeRefusedTest::twelveMessages, "i:63", "r:63");
    }

    private static void badSearches() {
        Check.sentence(EMPTIED);
        String[] bad = {"", "b)", "(b", "!b&", "t:8", "(((((((b)))))))", "c|s:", "zz zz"};
        for (String query : bad) {
            dueBadSearch(query, EdgeRefusedTest::nothing);
            dueBadSearch(query, EdgeRefusedTest::someMessagesAndNoDraft);
            dueBadSearch(query, EdgeRefusedTest::twelveMessages);
        }
    }

    private static void dueBadSearch(String query, Consumer<ThreadedArchive> story) {
        ThreadedArchive asked = new ThreadedArchive();
        ThreadedArchive left = new ThreadedArchive();
        story.accept(asked);
        story.accept(left);
        Check.line(asked, "i:9");
        Check.line(left, "i:9");
        Check.due("search " + query, Check.search(asked, query), ThreadedArchive.BAD);
        Check.due("characters behind " + query, asked.count(1), 0);
        dueAlike("search " + query, asked, left);
    }

    /** Not refused, but what they answer is all that is said of them. */
    private static void goodLooks() {
        Check.sentence("Nothing is promised beyond the answers and state changes described above");
        Consumer<ThreadedArchive> story = EdgeRefusedTest::someMessages;
        dueUnchanged("hit(0)", 0, story, x -> x.hit(0));
        dueUnchanged("hit(1)", 3, story, x -> x.hit(1));
        dueUnchanged("related(1)", 1, story, x -> x.related(1));
        dueUnchanged("idOf(1)", 2, story, x -> x.idOf(1));
        dueUnchanged("answers(1)", 0, story, x -> x.answers(1));
        dueUnchanged("root(6)", 5, story, x -> x.root(6));
        dueUnchanged("word(0, 1)", 2, story, x -> x.word(0, 1));
        dueUnchanged("field(1, 1)", 2, story, x -> x.field(1, 1));
        dueUnchanged("errorAt", 1, story, ThreadedArchive::errorAt);
        int[] counts = {3, 3, 2, 2, 1, 3, 1};
        for (int what = 0; what < counts.length; what++) {
            int asked = what;
            dueUnchanged("count(" + what + ")", counts[what], story, x -> x.count(asked));
        }
    }
}
