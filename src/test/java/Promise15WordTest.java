public final class Promise15WordTest {
    public static void main(String[] args) {
        makesCodes();
        cutsWords();
        takesHeaders();
        takesFiftyWords();
        decodes();
        refusesUnknownOnes();
        Check.end();
    }

    private static void makesCodes() {
        ThreadedArchive x = Check.archiveOf("s:a z ab hello zzzzzzzzzzzz aaaaaaaaaaaa");
        Check.due("a", x.word(0, 0), 1);
        Check.due("z", x.word(0, 1), 26);
        Check.due("ab", x.word(0, 2), 34);
        Check.due("hello", x.word(0, 3), 8565135L);
        Check.due("twelve z", x.word(0, 4), Check.code("zzzzzzzzzzzz"));
        Check.due("twelve a", x.word(0, 5), Check.code("aaaaaaaaaaaa"));
        Check.due("behind the last", x.word(0, 6), ThreadedArchive.REFUSED);
        x = Check.archiveOf("s:AbC aBc ABC Zz");
        Check.dueWords("capitals", x, 0, "0abc", "0abc", "0abc", "0zz");
    }

    private static void cutsWords() {
        ThreadedArchive x = Check.archiveOf("s:abcdefghijklm abcdefghijkl abcdefghijk");
        Check.dueWords("long words", x, 0, "0abcdefghijkl", "0abcdefghijkl", "0abcdefghijk");
        x = Check.archiveOf("s:abcdefghijklmnopqrstuvwxyzabcdefghijkl");
        Check.dueWords("a whole line", x, 0, "0abcdefghijkl");
        x = Check.archiveOf("", "a-b.c1d_e@f[g`h{i\u00e9j\u0000k\u00ffl:m", "no", "joining", "  of lines  ");
        Check.dueWords("cuts", x, 0, "2a", "2b", "2c", "2d", "2e", "2f", "2g", "2h", "2i", "2j", "2k", "2l", "2m",
                "2no", "2joining", "2of", "2lines");
        x = Check.archiveOf("s:123 -- ..", "f:", "", "123");
        Check.dueWords("no letters", x, 0);
    }

    private static void takesHeaders() {
        ThreadedArchive x = Check.archiveOf("f:from me", "s:sub ject", "x:other", "no header", "", "s:body", "i:x");
        Check.dueWords("headers", x, 0, "0sub", "0ject", "1from", "1me", "2s", "2body", "2i", "2x");
        x = Check.archiveOf("s:first", "s:second", "f:a", "f:");
        Check.dueWords("the last header counts", x, 0, "0second");
        x = Check.archiveOf("S:no", "F:no", " s:no", "ss:no");
        Check.dueWords("other keys", x, 0);
        x = Check.archiveOf("no empty line", "s:yes");
        Check.dueWords("no body", x, 0, "0yes");
        x = Check.archiveOf("", "", "two", "", "empty");
        Check.dueWords("empty lines in the body", x, 0, "2two", "2empty");
    }

    private static void takesFiftyWords() {
        ThreadedArchive x = Check.archiveOf("s:a a a a a a a a a a a a a a a a a a a",
                "f:b b b b b b b b b b b b b b b b b b b", "", "c c c c c c c c c c c", "d e");
        Check.due("word 18", x.word(0, 18), 1);
        Check.due("word 19", x.word(0, 19), 2);
        Check.due("word 48", x.word(0, 48), 3);
        Check.due("word 49", x.word(0, 49), 4);
        Check.due("word 50", x.word(0, 50), ThreadedArchive.REFUSED);
        Check.due("codes", x.count(5), 4);
        Check.due("the 50th is found", Check.search(x, "d"), 1);
        Check.due("the 51st is not found", Check.search(x, "e*"), 0);
    }

    private static void decodes() {
        ThreadedArchive x = Check.archiveOf("e:h", "", "61 62", "6", "16", "6A6a", "6g1", "x6y1z206 2-3", "41205A");
        Check.dueWords("base 16", x, 0, "2ab", "2jj", "2a", "2a", "2b", "2a", "2z");
        x = Check.archiveOf("e:h", "s:6162", "f:61", "", "");
        Check.dueWords("headers are not decoded", x, 0);
        x = Check.archiveOf("e:h", "", "616", "162");
        Check.dueWords("an odd last one is left out", x, 0, "2a");
        x = Check.archiveOf("e:h", "", "61", "62");
        Check.dueWords("lines stay apart", x, 0, "2a", "2b");
        x = Check.archiveOf("e:h", "", "610a62", "61ff62", "610062");
        Check.dueWords("decoded characters cut", x, 0, "2a", "2b", "2a", "2b", "2a", "2b");
        x = Check.archiveOf("e:h", "", "6162636465666768696a6b6c6d6e6f7071727374");
        Check.dueWords("a whole line", x, 0, "2abcdefghijkl");
        x = Check.archiveOf("e:h", "", "/6:1@6G1`6g1");
        Check.dueWords("characters beside the digits", x, 0, "2aaa");
        String[] others = {"e:H", "e:", "e:hh", "e: h", "e:h ", "E:h", "e;h", "eh"};
        for (String header : others) {
            x = Check.archiveOf(header, "", "61ab");
            Check.dueWords("not decoded with " + header, x, 0, "2ab");
        }
        x = Check.archiveOf("e:h", "", "6f6F206e6E206d6D206b6B206C6c2070 79");
        Check.dueWords("digits of both kinds", x, 0, "2oo", "2nn", "2mm", "2kk", "2ll", "2py");
        x = new ThreadedArchive();
        Check.message(x, "e:h", "i:1", "", "6162");
        Check.dueWords("e in the first line", x, 0, "2ab");
        x = Check.archiveOf("e:x", "e:h", "", "6162");
        Check.dueWords("the last e counts", x, 0, "2ab");
        x = Check.archiveOf("e:h", "e:x", "", "61ab");
        Check.dueWords("the last e counts not", x, 0, "2ab");
    }

    private static void refusesUnknownOnes() {
        ThreadedArchive x = Check.archiveOf("s:a b");
        int[] wrong = {-1, 2, 49, 50, Integer.MIN_VALUE, Integer.MAX_VALUE};
        for (int k : wrong) {
            Check.due("word(0, " + k + ")", x.word(0, k), ThreadedArchive.REFUSED);
        }
        int[] unknown = {-1, 1, 11, 12, Integer.MIN_VALUE, Integer.MAX_VALUE};
        for (int number : unknown) {
            Check.due("word(" + number + ", 0)", x.word(number, 0), ThreadedArchive.REFUSED);
        }
    }
}
