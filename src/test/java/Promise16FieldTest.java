public final class Promise16FieldTest {
    public static void main(String[] args) {
        ThreadedArchive x = Check.archiveOf("f:b", "s:a a", "", "c", "d d");
        int[] fields = {0, 0, 1, 2, 2, 2};
        for (int k = 0; k < fields.length; k++) {
            Check.due("field(0, " + k + ")", x.field(0, k), fields[k]);
        }
        int[] wrong = {-1, 6, 49, 50, Integer.MIN_VALUE, Integer.MAX_VALUE};
        for (int k : wrong) {
            Check.due("field(0, " + k + ")", x.field(0, k), ThreadedArchive.REFUSED);
        }
        int[] unknown = {-1, 1, 11, 12, Integer.MIN_VALUE, Integer.MAX_VALUE};
        for (int number : unknown) {
            Check.due("field(" + number + ", 0)", x.field(number, 0), ThreadedArchive.REFUSED);
        }
        Check.message(x, "i:2", "f:only");
        Check.due("field(1, 0)", x.field(1, 0), 1);
        Check.message(x, "i:3", "e:h", "", "61");
        Check.due("field(2, 0)", x.field(2, 0), 2);
        x.drop(0);
        Check.due("field of a dropped one", x.field(0, 0), ThreadedArchive.REFUSED);
        Check.message(x, "i:4", "f:new");
        Check.due("field of a number given again", x.field(0, 0), 1);
        Check.due("no old field behind it", x.field(0, 1), ThreadedArchive.REFUSED);
        Check.end();
    }
}
