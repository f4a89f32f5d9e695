/** The edges of the TEXT of a LEAF: Terms. */
public final class EdgeDecodingTest {
    private static final String DIGITS = "0123456789abcdef";

    public static void main(String[] args) {
        headerIsJustH();
        headerIsTheLeafsOwn();
        onlyDigitsCount();
        digitsHaveTheirValues();
        pairsAreCharacters();
        oddLastOneIsLeftOut();
        pairsStayInALine();
        longestLine();
        otherTextIsAsItIs();
        Check.end();
    }

    private static void dueWords(String words, String... lines) {
        String[] fieldsAndWords = words.isEmpty() ? new String[0] : ("2" + words.replace(" ", " 2")).split(" ");
        Check.dueWords(String.join(", ", lines), Check.archiveOf(lines), 0, fieldsAndWords);
    }

    private static void headerIsJustH() {
        Check.sentence("The TEXT of a LEAF whose header e has the VALUE h");
        dueWords("abc", "e:h", "", "616263");
        String[] others = {"e:", "e:H", "e:hh", "e: h", "e:h ", "e:g", "e:i", "e", "eh", "e;h", "E:h", " e:h", "ee:h"};
        for (String header : others) {
            dueWords("a b", header, "", "6a1b62");
        }
        dueWords("e h a b", "", "e:h", "6a1b62");
    }

    private static void headerIsTheLeafsOwn() {
        Check.sentence("The TEXT of a LEAF whose header e has the VALUE h");
        dueWords("a b", "m:x", "e:h", "", "-x", "", "6a1b62");
        dueWords("j b", "m:x", "", "-x", "e:h", "", "6a1", "-x", "", "6b1");
        dueWords("j k", "m:x", "", "-x", "m:y", "", "-y", "e:h", "", "6a", "-y", "e:h", "", "6b");
        dueWords("e h a", "m:x", "", "-x", "", "e:h", "6a");
    }

    /** A digit before "61" makes a pair with the 6, and the 1 is left out; 46, 56, 66 and 76 are F, V, f and v. */
    private static void onlyDigitsCount() {
        Check.sentence("the characters 0 .. 9, a .. f, A .. F alone count");
        String[] wordsByValue = {"", "", "", "", "f", "v", "f", "v", "", "", "", "", "", "", "", ""};
        for (int c = 0; c < 256; c++) {
            int value = c < 128 ? DIGITS.indexOf(Character.toLowerCase(c)) : -1;
            dueWords(value < 0 ? "a" : wordsByValue[value], "e:h", "", (char) c + "61");
        }
        dueWords("aaa", "e:h", "", "/6:1@6G1`6g1");
        dueWords("", "e:h", "", "ghijklmnopqrstuvwxyz GHIJKLMNOPQRSTUVWXYZ");
        dueWords("", "e:h", "");
        dueWords("", "e:h", "", "");
    }

    private static void digitsHaveTheirValues() {
        Check.sentence("by their value in base 16");
        for (int value = 0; value < 16; value++) {
            char small = DIGITS.charAt(value);
            char large = Character.toUpperCase(small);
            String low = value == 0 ? "" : "" + (char) ('a' + value - 1);
            dueWords(low, "e:h", "", "6" + small);
            dueWords(low, "e:h", "", "6" + large);
            String high = value == 4 || value == 6 ? "a" : value == 5 || value == 7 ? "q" : "";
            dueWords(high, "e:h", "", small + "1");
            dueWords(high, "e:h", "", large + "1");
        }
    }

    private static void pairsAreCharacters() {
        Check.sentence("each two of them are one character");
        for (int c = 0; c < 256; c++) {
            String pair = "" + DIGITS.charAt(c / 16) + DIGITS.charAt(c % 16);
            boolean isLetter = c >= 'a' && c <= 'z' || c >= 'A' && c <= 'Z';
            String word = isLetter ? "x" + (char) (c | 32) + "y" : "x y";
            dueWords(word, "e:h", "", "78" + pair + "79");
        }
        dueWords("ab", "e:h", "", "6 1 6 2");
        dueWords("ab", "e:h", "", "6-.1gz6()2");
    }

    private static void oddLastOneIsLeftOut() {
        Check.sentence("(from the left; an odd last one is left out)");
        dueWords("", "e:h", "", "6");
        dueWords("a", "e:h", "", "61");
        dueWords("a", "e:h", "", "616");
        dueWords("ab", "e:h", "", "6162");
        dueWords("v", "e:h", "", "761");
        dueWords("a", "e:h", "", "61 6 x");
    }

    private static void pairsStayInALine() {
        Check.sentence("in each line of its BODY");
        dueWords("", "e:h", "", "6", "1");
        dueWords("a b", "e:h", "", "616", "62");
        dueWords("a b", "e:h", "", "61", "62");
        dueWords("a b", "e:h", "", "61", "", "62");
    }

    private static void longestLine() {
        Check.sentence("THE LINE holds at most 40 characters");
        dueWords("q", "e:h", "", "20".repeat(19) + "71");
        dueWords("", "e:h", "", "20".repeat(19) + "7x");
        dueWords("q", "e:h", "", "x".repeat(38) + "71");
        dueWords("abcdefghijkl", "e:h", "", "6162636465666768696a6b6c6d6e6f7071727374");
    }

    private static void otherTextIsAsItIs() {
        Check.sentence("The TEXT of any other LEAF: the lines of its BODY as they are");
        dueWords("a b", "", "6a1b62");
        dueWords("", "", "616263");
        dueWords("abcdef", "", "abcdef");
        ThreadedArchive x = Check.archiveOf("e:h", "s:6a", "f:6b", "", "6c");
        Check.dueWords("headers are not decoded", x, 0, "0a", "1b", "2l");
    }
}
