/** The edges of what a QUERY holds for, and of hit and related: Terms and promises 8, 10 and 11. */
public final class EdgeFoundTest {
    private static final int[] NO_PLACES = {-1, -2, 12, 13, Integer.MIN_VALUE, Integer.MAX_VALUE};

    public static void main(String[] args) {
        wordsHoldAsAWhole();
        starsHoldForWhatBeginsSo();
        longWordsInQueries();
        fieldsAlone();
        noMessages();
        noneAndAll();
        andOrNot();
        orderOfAndOrNot();
        badSearchKeepsWhatWasFound();
        emptySearchKeepsWhatWasFound();
        badSearchLeavesNothingBehind();
        numbersStayFound();
        holdsNow();
        hitsHaveTwoEnds();
        hitsBeforeAnySearch();
        droppedHitsCount();
        relatedHasTwoEnds();
        relatedBeforeAnySearch();
        relatedToThoseThatAreThere();
        relatedByRootsWithoutMessages();
        relatedToNumbersGivenAgain();
        Check.end();
    }

    private static void dueFound(ThreadedArchive x, String query, int... numbers) {
        Check.due("search " + query, Check.search(x, query), numbers.length);
        Check.dueHits(query, x, numbers);
    }

    private static void wordsHoldAsAWhole() {
        Check.sentence("A word holds for a message that has a WORD with these letters");
        ThreadedArchive x = Check.archiveOf("s:abc");
        Check.message(x, "i:2", "s:ab");
        Check.message(x, "i:3", "s:a", "f:b", "", "bc abcd");
        dueFound(x, "abc", 0);
        dueFound(x, "ab", 1);
        dueFound(x, "a", 2);
        dueFound(x, "bc", 2);
        dueFound(x, "c");
        dueFound(x, "abcde");
        dueFound(x, "ba");
    }

    private static void starsHoldForWhatBeginsSo() {
        Check.sentence("with \"*\" one that begins with them");
        ThreadedArchive x = Check.archiveOf("s:abc");
        Check.message(x, "i:2", "s:ab");
        Check.message(x, "i:3", "s:a bab");
        Check.message(x, "i:4", "s:zzzzzzzzzzzz");
        dueFound(x, "a*", 0, 1, 2);
        dueFound(x, "ab*", 0, 1);
        dueFound(x, "abc*", 0);
        dueFound(x, "abcd*");
        dueFound(x, "b*", 2);
        dueFound(x, "c*");
        dueFound(x, "z*", 3);
        dueFound(x, "z");
        dueFound(x, "zzzzzzzzzzz*", 3);
        dueFound(x, "zzzzzzzzzzzz*", 3);
        dueFound(x, "zzzzzzzzzzzzz*", 3);
    }

    private static void longWordsInQueries() {
        Check.sentence("(of more than 12 the first 12 count)");
        ThreadedArchive x = Check.archiveOf("s:abcdefghijklm");
        Check.message(x, "i:2", "s:abcdefghijkl");
        Check.message(x, "i:3", "s:abcdefghijk");
        dueFound(x, "abcdefghijk", 2);
        dueFound(x, "abcdefghijkl", 0, 1);
        dueFound(x, "abcdefghijklm", 0, 1);
        dueFound(x, "abcdefghijklx", 0, 1);
        dueFound(x, "abcdefghijkx");
        dueFound(x, "abcdefghijk*", 0, 1, 2);
        dueFound(x, "abcdefghijkl*", 0, 1);
        dueFound(x, "abcdefghijklx*", 0, 1);
        dueFound(x, "s:abcdefghijklx*&abcdefghijkly", 0, 1);
    }

    private static void fieldsAlone() {
        Check.sentence("one of s: f: b: (field 0, 1, 2 alone)");
        ThreadedArchive x = Check.archiveOf("s:ab");
        Check.message(x, "i:2", "f:ab");
        Check.message(x, "i:3", "", "ab");
        Check.message(x, "i:4", "s:c ab", "f:ab", "", "ab");
        dueFound(x, "ab", 0, 1, 2, 3);
        dueFound(x, "s:ab", 0, 3);
        dueFound(x, "f:ab", 1, 3);
        dueFound(x, "b:ab", 2, 3);
        dueFound(x, "s:a*", 0, 3);
        dueFound(x, "f:a*", 1, 3);
        dueFound(x, "b:a*", 2, 3);
        dueFound(x, "s:a");
        dueFound(x, "s:ab&ab", 0, 3);
        dueFound(x, "f:c|ab", 0, 1, 2, 3);
    }

    private static void noMessages() {
        Check.sentence("the numbers of the messages for which it holds now are FOUND: how many");
        ThreadedArchive x = new ThreadedArchive();
        dueFound(x, "a");
        dueFound(x, "!a");
        dueFound(x, "!t:0");
        dueFound(x, "a*|!a*");
        Check.dueRelated("no messages", x);
    }

    private static void noneAndAll() {
        Check.sentence("the numbers of the messages for which it holds now are FOUND: how many");
        ThreadedArchive x = Check.archiveOfMany(12);
        dueFound(x, "a");
        dueFound(x, "!a", 0, 1, 2, 3, 4, 5, 6, 7, 8, 9, 10, 11);
        x.drop(0);
        x.drop(11);
        dueFound(x, "!a", 1, 2, 3, 4, 5, 6, 7, 8, 9, 10);
    }

    private static void andOrNot() {
        Check.sentence("\"|\", \"&\" and \"!\" are or, and, not");
        ThreadedArchive x = Check.archiveOf();
        Check.message(x, "i:2", "s:p");
        Check.message(x, "i:3", "s:q");
        Check.message(x, "i:4", "s:p q");
        dueFound(x, "p|q", 1, 2, 3);
        dueFound(x, "p&q", 3);
        dueFound(x, "!p", 0, 2);
        dueFound(x, "!!p", 1, 3);
        dueFound(x, "!p&!q", 0);
        dueFound(x, "!p|!q", 0, 1, 2);
        dueFound(x, "!(p|q)", 0);
        dueFound(x, "!(p&q)", 0, 1, 2);
    }

    /** Messages 0 .. 7 have p, q, r as the bits of their number tell. */
    private static void orderOfAndOrNot() {
        Check.sentence("a QUERY is an ALL, or QUERY \"|\" ALL; an ALL is a ONE, or ALL \"&\" ONE");
        ThreadedArchive x = new ThreadedArchive();
        for (int n = 0; n < 8; n++) {
            Check.message(x, "i:" + n, "s:" + (n % 2 == 1 ? "p " : "") + (n / 2 % 2 == 1 ? "q " : "")
                    + (n / 4 == 1 ? "r" : ""));
        }
        dueFound(x, "p|q&r", 1, 3, 5, 6, 7);
        dueFound(x, "p&q|r", 3, 4, 5, 6, 7);
        dueFound(x, "(p|q)&r", 5, 6, 7);
        dueFound(x, "p&(q|r)", 3, 5, 7);
        dueFound(x, "!p&q|r", 2, 4, 5, 6, 7);
        dueFound(x, "!(p&q)|r", 0, 1, 2, 4, 5, 6, 7);
        dueFound(x, "p|!q&r", 1, 3, 4, 5, 7);
        dueFound(x, "p&q&r", 7);
        dueFound(x, "p|q|r", 1, 2, 3, 4, 5, 6, 7);
        dueFound(x, "!(p|!(q|r)&!p)", 2, 4, 6);
    }

    private static void badSearchKeepsWhatWasFound() {
        Check.sentence("what was found before stays");
        ThreadedArchive x = Check.archiveOf("s:p");
        Check.message(x, "i:2", "s:q");
        dueFound(x, "p", 0);
        String[] bad = {"q)", "q&", "(q", "q ", "(((((((q)))))))", "Q", "s:", "t:8"};
        for (String query : bad) {
            Check.due("search " + query, Check.search(x, query), ThreadedArchive.BAD);
            Check.dueHits(query, x, 0);
            Check.dueRelated(query, x, 0);
        }
    }

    private static void emptySearchKeepsWhatWasFound() {
        Check.sentence("what was found before stays");
        ThreadedArchive x = Check.archiveOfMany(2);
        dueFound(x, "!p", 0, 1);
        Check.due("search of an empty line", x.search(), ThreadedArchive.BAD);
        Check.dueHits("behind it", x, 0, 1);
        x = Check.archiveOfMany(2);
        Check.due("search of an empty line at first", x.search(), ThreadedArchive.BAD);
        Check.dueHits("behind it at first", x);
    }

    private static void badSearchLeavesNothingBehind() {
        Check.sentence("A refused call (an answer below 0) changes nothing");
        String[] bad = {"!", "!!!", "(!", "((!(", "p&", "zz&", "p|", "(p|", "!(p&!", "s:", "!t:", "q", "!q)", "f:q!"};
        for (String query : bad) {
            ThreadedArchive x = Check.archiveOf("s:p");
            Check.message(x, "i:2", "s:q");
            Check.search(x, query);
            dueFound(x, "p", 0);
            Check.search(x, query);
            dueFound(x, "((((!p))))", 1);
            Check.type(x, query);
            x.wipe();
            dueFound(x, "q|zz", 1);
        }
    }

    private static void numbersStayFound() {
        Check.sentence("(a number stays so if its message is dropped, or given again)");
        ThreadedArchive x = Check.archiveOf("s:p");
        Check.message(x, "i:2", "s:p");
        dueFound(x, "p", 0, 1);
        x.drop(0);
        Check.dueHits("behind drop", x, 0, 1);
        Check.message(x, "i:3", "s:q");
        Check.dueHits("given again", x, 0, 1);
        x.drop(0);
        x.drop(1);
        Check.dueHits("behind drop of all", x, 0, 1);
        dueFound(x, "p");
    }

    private static void holdsNow() {
        Check.sentence("the messages for which it holds now");
        ThreadedArchive x = Check.archiveOf("s:p");
        dueFound(x, "p", 0);
        Check.message(x, "i:2", "s:p");
        Check.dueHits("a later message", x, 0);
        dueFound(x, "t:3");
        x.tag(1, 3, true);
        Check.dueHits("a later tag", x);
        dueFound(x, "t:3", 1);
        x.tag(1, 3, false);
        Check.dueHits("a tag that is no more", x, 1);
    }

    private static void hitsHaveTwoEnds() {
        Check.sentence("The k-th of the FOUND messages by number, from 0; NONE if there is no such");
        ThreadedArchive x = Check.archiveOfMany(12);
        dueFound(x, "!a", 0, 1, 2, 3, 4, 5, 6, 7, 8, 9, 10, 11);
        for (int k : NO_PLACES) {
            Check.due("hit(" + k + ")", x.hit(k), ThreadedArchive.NONE);
        }
        x.tag(0, 0, true);
        x.tag(11, 0, true);
        dueFound(x, "t:0", 0, 11);
        Check.due("hit(11)", x.hit(11), ThreadedArchive.NONE);
        for (int k : NO_PLACES) {
            Check.due("hit(" + k + ")", x.hit(k), ThreadedArchive.NONE);
        }
    }

    private static void hitsBeforeAnySearch() {
        Check.sentence("NONE if there is no such");
        ThreadedArchive x = new ThreadedArchive();
        Check.due("hit(0) of a new object", x.hit(0), ThreadedArchive.NONE);
        x = Check.archiveOfMany(3);
        Check.due("hit(0) before any search", x.hit(0), ThreadedArchive.NONE);
        dueFound(x, "a");
        Check.due("hit(0) of none", x.hit(0), ThreadedArchive.NONE);
    }

    private static void droppedHitsCount() {
        Check.sentence("those that are not there any more count, too");
        ThreadedArchive x = Check.archiveOfMany(4);
        dueFound(x, "!a", 0, 1, 2, 3);
        x.drop(1);
        Check.dueHits("without 1", x, 0, 1, 2, 3);
        x.drop(0);
        x.drop(3);
        Check.dueHits("without 0, 1 and 3", x, 0, 1, 2, 3);
        x.drop(2);
        Check.dueHits("without any", x, 0, 1, 2, 3);
        Check.due("messages", x.count(0), 0);
    }

    private static void relatedHasTwoEnds() {
        Check.sentence("The k-th, from 0, of all messages by number whose ROOT is that of some FOUND message");
        ThreadedArchive x = new ThreadedArchive();
        for (int n = 0; n < 12; n++) {
            Check.message(x, "i:" + (20 - n), n % 2 == 0 ? "r:63" : "r:62");
        }
        x.tag(11, 1, true);
        dueFound(x, "t:1", 11);
        Check.dueRelated("the odd ones", x, 1, 3, 5, 7, 9, 11);
        for (int k : NO_PLACES) {
            Check.due("related(" + k + ")", x.related(k), ThreadedArchive.NONE);
        }
        x.tag(0, 1, true);
        dueFound(x, "t:1", 0, 11);
        Check.dueRelated("all", x, 0, 1, 2, 3, 4, 5, 6, 7, 8, 9, 10, 11);
        for (int k : NO_PLACES) {
            Check.due("related(" + k + ")", x.related(k), ThreadedArchive.NONE);
        }
    }

    private static void relatedBeforeAnySearch() {
        Check.sentence("NONE if there is no such");
        Check.dueRelated("a new object", new ThreadedArchive());
        ThreadedArchive x = Check.archiveOfMany(3);
        Check.dueRelated("before any search", x);
        dueFound(x, "a");
        Check.dueRelated("none found", x);
    }

    private static void relatedToThoseThatAreThere() {
        Check.sentence("some FOUND message that is there");
        ThreadedArchive x = Check.archiveOf("s:p");
        Check.message(x, "i:2", "r:1", "s:q");
        Check.message(x, "i:3", "r:1 2");
        Check.message(x, "i:4", "s:p");
        dueFound(x, "p", 0, 3);
        Check.dueRelated("all", x, 0, 1, 2, 3);
        x.drop(0);
        Check.dueRelated("0 is not there", x, 3);
        x.drop(3);
        Check.dueRelated("no found one is there", x);
        dueFound(x, "q", 1);
        Check.dueRelated("by a root whose message is dropped", x, 1, 2);
        x.drop(2);
        Check.dueRelated("a dropped one is not related", x, 1);
    }

    private static void relatedByRootsWithoutMessages() {
        Check.sentence("whose ROOT is that of some FOUND message");
        ThreadedArchive x = Check.archiveOf("r:0", "s:p");
        Check.message(x, "i:2", "r:63");
        Check.message(x, "i:3", "r:0 9");
        Check.message(x, "i:9");
        dueFound(x, "p", 0);
        Check.dueRelated("by ID 0", x, 0, 2, 3);
        Check.message(x, "i:0", "r:63");
        Check.dueRelated("the threads as they are now", x, 0, 1, 2, 3, 4);
    }

    private static void relatedToNumbersGivenAgain() {
        Check.sentence("(a number stays so if its message is dropped, or given again)");
        ThreadedArchive x = Check.archiveOf("s:p");
        Check.message(x, "i:2");
        dueFound(x, "p", 0);
        x.drop(0);
        Check.dueRelated("dropped", x);
        Check.message(x, "i:3", "r:2");
        Check.dueRelated("given again", x, 0, 1);
    }
}
